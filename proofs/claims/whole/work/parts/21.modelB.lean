theorem wC_X8_cutUp : Cond.code yX8_cutUp cX8_cutUp 8 none ∈ TT := List.mem_filter.mpr ⟨List.mem_append_right _ (List.mem_of_getElem? (i := 852) (by decide +kernel)), rfl⟩
theorem wC_X8_factors : Cond.code yX8_factors cX8_factors 11 none ∈ TT := List.mem_filter.mpr ⟨List.mem_append_right _ (List.mem_of_getElem? (i := 865) (by decide +kernel)), rfl⟩
theorem wC_X8_gcd : Cond.code yX8_gcd cX8_gcd 10 (some .long) ∈ TT := List.mem_filter.mpr ⟨List.mem_append_right _ (List.mem_of_getElem? (i := 808) (by decide +kernel)), rfl⟩
theorem wC_X8_greed : Cond.code yX8_greed cX8_greed 16 none ∈ TT := List.mem_filter.mpr ⟨List.mem_append_right _ (List.mem_of_getElem? (i := 838) (by decide +kernel)), rfl⟩
theorem wC_X8_has : Cond.code yX8_has cX8_has 5 (some .boolean) ∈ TT := List.mem_filter.mpr ⟨List.mem_append_right _ (List.mem_of_getElem? (i := 842) (by decide +kernel)), rfl⟩
theorem wC_X8_keep : Cond.code yX8_keep cX8_keep 8 none ∈ TT := List.mem_filter.mpr ⟨List.mem_append_right _ (List.mem_of_getElem? (i := 805) (by decide +kernel)), rfl⟩
theorem wC_X8_middles : Cond.code yX8_middles cX8_middles 25 none ∈ TT := List.mem_filter.mpr ⟨List.mem_append_right _ (List.mem_of_getElem? (i := 861) (by decide +kernel)), rfl⟩
theorem wC_X8_multipleOf : Cond.code yX8_multipleOf cX8_multipleOf 2 (some .int) ∈ TT := List.mem_filter.mpr ⟨List.mem_append_right _ (List.mem_of_getElem? (i := 943) (by decide +kernel)), rfl⟩
theorem wC_X8_note : Cond.code yX8_note cX8_note 5 none ∈ TT := List.mem_filter.mpr ⟨List.mem_append_right _ (List.mem_of_getElem? (i := 893) (by decide +kernel)), rfl⟩
theorem wC_X8_rise : Cond.code yX8_rise cX8_rise 5 none ∈ TT := List.mem_filter.mpr ⟨List.mem_append_right _ (List.mem_of_getElem? (i := 999) (by decide +kernel)), rfl⟩
theorem wC_X8_sort : Cond.code yX8_sort cX8_sort 5 none ∈ TT := List.mem_filter.mpr ⟨List.mem_append_right _ (List.mem_of_getElem? (i := 869) (by decide +kernel)), rfl⟩
theorem wF_X8_137 : Cond.fieldLink RX8 137 (TX8 12).1 (TX8 12).2.1 (TX8 12).2.2.1 ∈ TT := List.mem_filter.mpr ⟨List.mem_append_right _ (List.mem_of_getElem? (i := 729) (by decide +kernel)), rfl⟩
theorem wF_X8_198 : Cond.fieldLink RX8 198 (TX8 20).1 (TX8 20).2.1 (TX8 20).2.2.1 ∈ TT := List.mem_filter.mpr ⟨List.mem_append_right _ (List.mem_of_getElem? (i := 737) (by decide +kernel)), rfl⟩
theorem wF_X8_202 : Cond.fieldLink RX8 202 (TX8 21).1 (TX8 21).2.1 (TX8 21).2.2.1 ∈ TT := List.mem_filter.mpr ⟨List.mem_append_right _ (List.mem_of_getElem? (i := 738) (by decide +kernel)), rfl⟩
theorem wF_X8_216 : Cond.fieldLink RX8 216 (TX8 22).1 (TX8 22).2.1 (TX8 22).2.2.1 ∈ TT := List.mem_filter.mpr ⟨List.mem_append_right _ (List.mem_of_getElem? (i := 739) (by decide +kernel)), rfl⟩
theorem wF_X8_219 : Cond.fieldLink RX8 219 (TX8 23).1 (TX8 23).2.1 (TX8 23).2.2.1 ∈ TT := List.mem_filter.mpr ⟨List.mem_append_right _ (List.mem_of_getElem? (i := 740) (by decide +kernel)), rfl⟩
theorem wF_X8_33 : Cond.fieldLink RX8 33 (TX8 9).1 (TX8 9).2.1 (TX8 9).2.2.1 ∈ TT := List.mem_filter.mpr ⟨List.mem_append_right _ (List.mem_of_getElem? (i := 726) (by decide +kernel)), rfl⟩
theorem wF_X8_36 : Cond.fieldLink RX8 36 (TX8 10).1 (TX8 10).2.1 (TX8 10).2.2.1 ∈ TT := List.mem_filter.mpr ⟨List.mem_append_right _ (List.mem_of_getElem? (i := 727) (by decide +kernel)), rfl⟩
theorem wF_X8_39 : Cond.fieldLink RX8 39 (TX8 11).1 (TX8 11).2.1 (TX8 11).2.2.1 ∈ TT := List.mem_filter.mpr ⟨List.mem_append_right _ (List.mem_of_getElem? (i := 728) (by decide +kernel)), rfl⟩
theorem wI_X8_cutUp : Cond.instanceMethod yX8_cutUp ∈ TT := List.mem_filter.mpr ⟨List.mem_append_right _ (List.mem_of_getElem? (i := 851) (by decide +kernel)), rfl⟩
theorem wI_X8_factors : Cond.instanceMethod yX8_factors ∈ TT := List.mem_filter.mpr ⟨List.mem_append_right _ (List.mem_of_getElem? (i := 864) (by decide +kernel)), rfl⟩
theorem wI_X8_greed : Cond.instanceMethod yX8_greed ∈ TT := List.mem_filter.mpr ⟨List.mem_append_right _ (List.mem_of_getElem? (i := 837) (by decide +kernel)), rfl⟩
theorem wI_X8_has : Cond.instanceMethod yX8_has ∈ TT := List.mem_filter.mpr ⟨List.mem_append_right _ (List.mem_of_getElem? (i := 841) (by decide +kernel)), rfl⟩
theorem wI_X8_keep : Cond.instanceMethod yX8_keep ∈ TT := List.mem_filter.mpr ⟨List.mem_append_right _ (List.mem_of_getElem? (i := 804) (by decide +kernel)), rfl⟩
theorem wI_X8_middles : Cond.instanceMethod yX8_middles ∈ TT := List.mem_filter.mpr ⟨List.mem_append_right _ (List.mem_of_getElem? (i := 860) (by decide +kernel)), rfl⟩
theorem wI_X8_multipleOf : Cond.instanceMethod yX8_multipleOf ∈ TT := List.mem_filter.mpr ⟨List.mem_append_right _ (List.mem_of_getElem? (i := 942) (by decide +kernel)), rfl⟩
theorem wI_X8_note : Cond.instanceMethod yX8_note ∈ TT := List.mem_filter.mpr ⟨List.mem_append_right _ (List.mem_of_getElem? (i := 892) (by decide +kernel)), rfl⟩
theorem wI_X8_rise : Cond.instanceMethod yX8_rise ∈ TT := List.mem_filter.mpr ⟨List.mem_append_right _ (List.mem_of_getElem? (i := 998) (by decide +kernel)), rfl⟩
theorem wI_X8_sort : Cond.instanceMethod yX8_sort ∈ TT := List.mem_filter.mpr ⟨List.mem_append_right _ (List.mem_of_getElem? (i := 868) (by decide +kernel)), rfl⟩
theorem wL_X8_196 : Cond.constantLong RX8 196 (20000) ∈ TT := List.mem_filter.mpr ⟨List.mem_append_right _ (List.mem_of_getElem? (i := 964) (by decide +kernel)), rfl⟩
theorem wL_X8_72 : Cond.constantLong RX8 72 (1000000) ∈ TT := List.mem_filter.mpr ⟨List.mem_append_right _ (List.mem_of_getElem? (i := 801) (by decide +kernel)), rfl⟩
theorem wL_X8_89 : Cond.constantLong RX8 89 (2) ∈ TT := List.mem_filter.mpr ⟨List.mem_append_right _ (List.mem_of_getElem? (i := 834) (by decide +kernel)), rfl⟩
theorem wL_X8_99 : Cond.constantLong RX8 99 (1000000000000000) ∈ TT := List.mem_filter.mpr ⟨List.mem_append_right _ (List.mem_of_getElem? (i := 848) (by decide +kernel)), rfl⟩
theorem wM_X8_107 : Cond.methodLink RX8 107 yX8_greed ∈ TT := List.mem_filter.mpr ⟨List.mem_append_right _ (List.mem_of_getElem? (i := 835) (by decide +kernel)), rfl⟩
theorem wM_X8_111 : Cond.methodLink RX8 111 yX8_cutUp ∈ TT := List.mem_filter.mpr ⟨List.mem_append_right _ (List.mem_of_getElem? (i := 849) (by decide +kernel)), rfl⟩
theorem wM_X8_115 : Cond.methodLink RX8 115 yX8_middles ∈ TT := List.mem_filter.mpr ⟨List.mem_append_right _ (List.mem_of_getElem? (i := 858) (by decide +kernel)), rfl⟩
theorem wM_X8_118 : Cond.methodLink RX8 118 yX8_factors ∈ TT := List.mem_filter.mpr ⟨List.mem_append_right _ (List.mem_of_getElem? (i := 862) (by decide +kernel)), rfl⟩
theorem wM_X8_121 : Cond.methodLink RX8 121 yX8_sort ∈ TT := List.mem_filter.mpr ⟨List.mem_append_right _ (List.mem_of_getElem? (i := 866) (by decide +kernel)), rfl⟩
theorem wM_X8_140 : Cond.methodLink RX8 140 yX8_note ∈ TT := List.mem_filter.mpr ⟨List.mem_append_right _ (List.mem_of_getElem? (i := 890) (by decide +kernel)), rfl⟩
theorem wM_X8_192 : Cond.methodLink RX8 192 yX8_multipleOf ∈ TT := List.mem_filter.mpr ⟨List.mem_append_right _ (List.mem_of_getElem? (i := 940) (by decide +kernel)), rfl⟩
theorem wM_X8_224 : Cond.methodLink RX8 224 yX8_rise ∈ TT := List.mem_filter.mpr ⟨List.mem_append_right _ (List.mem_of_getElem? (i := 996) (by decide +kernel)), rfl⟩
theorem wM_X8_64 : Cond.methodLink RX8 64 yX8_gcd ∈ TT := List.mem_filter.mpr ⟨List.mem_append_right _ (List.mem_of_getElem? (i := 806) (by decide +kernel)), rfl⟩
theorem wM_X8_74 : Cond.methodLink RX8 74 yX8_keep ∈ TT := List.mem_filter.mpr ⟨List.mem_append_right _ (List.mem_of_getElem? (i := 802) (by decide +kernel)), rfl⟩
theorem wM_X8_91 : Cond.methodLink RX8 91 yX8_has ∈ TT := List.mem_filter.mpr ⟨List.mem_append_right _ (List.mem_of_getElem? (i := 839) (by decide +kernel)), rfl⟩
theorem wS_X8_cutUp : Cond.selects yX8_cutUp.cls yX8_cutUp yX8_cutUp ∈ TT := List.mem_filter.mpr ⟨List.mem_append_left _ (List.mem_of_getElem? (i := 51) (by decide +kernel)), rfl⟩
theorem wS_X8_factors : Cond.selects yX8_factors.cls yX8_factors yX8_factors ∈ TT := List.mem_filter.mpr ⟨List.mem_append_left _ (List.mem_of_getElem? (i := 54) (by decide +kernel)), rfl⟩
theorem wS_X8_greed : Cond.selects yX8_greed.cls yX8_greed yX8_greed ∈ TT := List.mem_filter.mpr ⟨List.mem_append_left _ (List.mem_of_getElem? (i := 48) (by decide +kernel)), rfl⟩
theorem wS_X8_has : Cond.selects yX8_has.cls yX8_has yX8_has ∈ TT := List.mem_filter.mpr ⟨List.mem_append_left _ (List.mem_of_getElem? (i := 49) (by decide +kernel)), rfl⟩
theorem wS_X8_keep : Cond.selects yX8_keep.cls yX8_keep yX8_keep ∈ TT := List.mem_filter.mpr ⟨List.mem_append_left _ (List.mem_of_getElem? (i := 46) (by decide +kernel)), rfl⟩
theorem wS_X8_middles : Cond.selects yX8_middles.cls yX8_middles yX8_middles ∈ TT := List.mem_filter.mpr ⟨List.mem_append_left _ (List.mem_of_getElem? (i := 53) (by decide +kernel)), rfl⟩
theorem wS_X8_multipleOf : Cond.selects yX8_multipleOf.cls yX8_multipleOf yX8_multipleOf ∈ TT := List.mem_filter.mpr ⟨List.mem_append_left _ (List.mem_of_getElem? (i := 62) (by decide +kernel)), rfl⟩
theorem wS_X8_note : Cond.selects yX8_note.cls yX8_note yX8_note ∈ TT := List.mem_filter.mpr ⟨List.mem_append_left _ (List.mem_of_getElem? (i := 58) (by decide +kernel)), rfl⟩
theorem wS_X8_rise : Cond.selects yX8_rise.cls yX8_rise yX8_rise ∈ TT := List.mem_filter.mpr ⟨List.mem_append_left _ (List.mem_of_getElem? (i := 68) (by decide +kernel)), rfl⟩
theorem wS_X8_sort : Cond.selects yX8_sort.cls yX8_sort yX8_sort ∈ TT := List.mem_filter.mpr ⟨List.mem_append_left _ (List.mem_of_getElem? (i := 55) (by decide +kernel)), rfl⟩
theorem wT_X8_gcd : Cond.static yX8_gcd ∈ TT := List.mem_filter.mpr ⟨List.mem_append_right _ (List.mem_of_getElem? (i := 807) (by decide +kernel)), rfl⟩
theorem dX8_divisor_0 : decode cX8_divisor 0 = .ok (.iload_n 1, 1) := by decide +kernel
theorem dX8_divisor_1 : decode cX8_divisor 1 = .ok (.invokestatic 68, 3) := by decide +kernel
theorem dX8_divisor_4 : decode cX8_divisor 4 = .ok (.ifCond .eq 8, 3) := by decide +kernel
theorem dX8_divisor_7 : decode cX8_divisor 7 = .ok (.iload_n 2, 1) := by decide +kernel
theorem dX8_divisor_8 : decode cX8_divisor 8 = .ok (.iconst (-1), 1) := by decide +kernel
theorem dX8_divisor_9 : decode cX8_divisor 9 = .ok (.if_icmp .ge 5, 3) := by decide +kernel
theorem dX8_divisor_12 : decode cX8_divisor 12 = .ok (.iconst (-1), 1) := by decide +kernel
theorem dX8_divisor_13 : decode cX8_divisor 13 = .ok (.ireturn, 1) := by decide +kernel
theorem dX8_divisor_14 : decode cX8_divisor 14 = .ok (.aload_n 0, 1) := by decide +kernel
theorem dX8_divisor_15 : decode cX8_divisor 15 = .ok (.iload_n 1, 1) := by decide +kernel
theorem dX8_divisor_16 : decode cX8_divisor 16 = .ok (.invokevirtual 192, 3) := by decide +kernel
theorem dX8_divisor_19 : decode cX8_divisor 19 = .ok (.istore_n 3, 1) := by decide +kernel
theorem dX8_divisor_20 : decode cX8_divisor 20 = .ok (.iload_n 3, 1) := by decide +kernel
theorem dX8_divisor_21 : decode cX8_divisor 21 = .ok (.ifCond .ge 5, 3) := by decide +kernel
theorem dX8_divisor_24 : decode cX8_divisor 24 = .ok (.iload_n 3, 1) := by decide +kernel
theorem dX8_divisor_25 : decode cX8_divisor 25 = .ok (.ireturn, 1) := by decide +kernel
theorem dX8_divisor_26 : decode cX8_divisor 26 = .ok (.aload_n 0, 1) := by decide +kernel
theorem dX8_divisor_27 : decode cX8_divisor 27 = .ok (.getfield 7, 3) := by decide +kernel
theorem dX8_divisor_30 : decode cX8_divisor 30 = .ok (.iload_n 1, 1) := by decide +kernel
theorem dX8_divisor_31 : decode cX8_divisor 31 = .ok (.iaload, 1) := by decide +kernel
theorem dX8_divisor_32 : decode cX8_divisor 32 = .ok (.iload_n 3, 1) := by decide +kernel
theorem dX8_divisor_33 : decode cX8_divisor 33 = .ok (.imul, 1) := by decide +kernel
theorem dX8_divisor_34 : decode cX8_divisor 34 = .ok (.istore 4, 2) := by decide +kernel
theorem dX8_divisor_36 : decode cX8_divisor 36 = .ok (.aload_n 0, 1) := by decide +kernel
theorem dX8_divisor_37 : decode cX8_divisor 37 = .ok (.getfield 55, 3) := by decide +kernel
theorem dX8_divisor_40 : decode cX8_divisor 40 = .ok (.sipush 5001, 3) := by decide +kernel
theorem dX8_divisor_43 : decode cX8_divisor 43 = .ok (.aload_n 0, 1) := by decide +kernel
theorem dX8_divisor_44 : decode cX8_divisor 44 = .ok (.getfield 180, 3) := by decide +kernel
theorem dX8_divisor_47 : decode cX8_divisor 47 = .ok (.imul, 1) := by decide +kernel
theorem dX8_divisor_48 : decode cX8_divisor 48 = .ok (.iload 4, 2) := by decide +kernel
theorem dX8_divisor_50 : decode cX8_divisor 50 = .ok (.iadd, 1) := by decide +kernel
theorem dX8_divisor_51 : decode cX8_divisor 51 = .ok (.iaload, 1) := by decide +kernel
theorem dX8_divisor_52 : decode cX8_divisor 52 = .ok (.istore 5, 2) := by decide +kernel
theorem dX8_divisor_54 : decode cX8_divisor 54 = .ok (.iload_n 2, 1) := by decide +kernel
theorem dX8_divisor_55 : decode cX8_divisor 55 = .ok (.iconst (-1), 1) := by decide +kernel
theorem dX8_divisor_56 : decode cX8_divisor 56 = .ok (.if_icmp .ne 6, 3) := by decide +kernel
theorem dX8_divisor_59 : decode cX8_divisor 59 = .ok (.iload 5, 2) := by decide +kernel
theorem dX8_divisor_61 : decode cX8_divisor 61 = .ok (.ireturn, 1) := by decide +kernel
theorem dX8_divisor_62 : decode cX8_divisor 62 = .ok (.iload_n 2, 1) := by decide +kernel
theorem dX8_divisor_63 : decode cX8_divisor 63 = .ok (.istore 6, 2) := by decide +kernel
theorem dX8_divisor_65 : decode cX8_divisor 65 = .ok (.aload_n 0, 1) := by decide +kernel
theorem dX8_divisor_66 : decode cX8_divisor 66 = .ok (.getfield 180, 3) := by decide +kernel
theorem dX8_divisor_69 : decode cX8_divisor 69 = .ok (.istore 7, 2) := by decide +kernel
theorem dX8_divisor_71 : decode cX8_divisor 71 = .ok (.iload 7, 2) := by decide +kernel
theorem dX8_divisor_73 : decode cX8_divisor 73 = .ok (.iconst 1, 1) := by decide +kernel
theorem dX8_divisor_74 : decode cX8_divisor 74 = .ok (.if_icmp .lt 121, 3) := by decide +kernel
theorem dX8_divisor_77 : decode cX8_divisor 77 = .ok (.iload 4, 2) := by decide +kernel
theorem dX8_divisor_79 : decode cX8_divisor 79 = .ok (.ifCond .le 116, 3) := by decide +kernel
theorem dX8_divisor_82 : decode cX8_divisor 82 = .ok (.aload_n 0, 1) := by decide +kernel
theorem dX8_divisor_83 : decode cX8_divisor 83 = .ok (.getfield 51, 3) := by decide +kernel
theorem dX8_divisor_86 : decode cX8_divisor 86 = .ok (.iload 7, 2) := by decide +kernel
theorem dX8_divisor_88 : decode cX8_divisor 88 = .ok (.iconst 1, 1) := by decide +kernel
theorem dX8_divisor_89 : decode cX8_divisor 89 = .ok (.isub, 1) := by decide +kernel
theorem dX8_divisor_90 : decode cX8_divisor 90 = .ok (.iaload, 1) := by decide +kernel
theorem dX8_divisor_91 : decode cX8_divisor 91 = .ok (.istore 8, 2) := by decide +kernel
theorem dX8_divisor_93 : decode cX8_divisor 93 = .ok (.iload 4, 2) := by decide +kernel
theorem dX8_divisor_95 : decode cX8_divisor 95 = .ok (.iload 8, 2) := by decide +kernel
theorem dX8_divisor_97 : decode cX8_divisor 97 = .ok (.if_icmp .lt 45, 3) := by decide +kernel
theorem dX8_divisor_100 : decode cX8_divisor 100 = .ok (.aload_n 0, 1) := by decide +kernel
theorem dX8_divisor_101 : decode cX8_divisor 101 = .ok (.getfield 55, 3) := by decide +kernel
theorem dX8_divisor_104 : decode cX8_divisor 104 = .ok (.sipush 5001, 3) := by decide +kernel
theorem dX8_divisor_107 : decode cX8_divisor 107 = .ok (.iload 7, 2) := by decide +kernel
theorem dX8_divisor_109 : decode cX8_divisor 109 = .ok (.iconst 1, 1) := by decide +kernel
theorem dX8_divisor_110 : decode cX8_divisor 110 = .ok (.isub, 1) := by decide +kernel
theorem dX8_divisor_111 : decode cX8_divisor 111 = .ok (.imul, 1) := by decide +kernel
theorem dX8_divisor_112 : decode cX8_divisor 112 = .ok (.iload 4, 2) := by decide +kernel
theorem dX8_divisor_114 : decode cX8_divisor 114 = .ok (.iadd, 1) := by decide +kernel
theorem dX8_divisor_115 : decode cX8_divisor 115 = .ok (.iload 8, 2) := by decide +kernel
theorem dX8_divisor_117 : decode cX8_divisor 117 = .ok (.isub, 1) := by decide +kernel
theorem dX8_divisor_118 : decode cX8_divisor 118 = .ok (.iaload, 1) := by decide +kernel
theorem dX8_divisor_119 : decode cX8_divisor 119 = .ok (.iconst 1, 1) := by decide +kernel
theorem dX8_divisor_120 : decode cX8_divisor 120 = .ok (.iadd, 1) := by decide +kernel
theorem dX8_divisor_121 : decode cX8_divisor 121 = .ok (.aload_n 0, 1) := by decide +kernel
theorem dX8_divisor_122 : decode cX8_divisor 122 = .ok (.getfield 55, 3) := by decide +kernel
theorem dX8_divisor_125 : decode cX8_divisor 125 = .ok (.sipush 5001, 3) := by decide +kernel
theorem dX8_divisor_128 : decode cX8_divisor 128 = .ok (.iload 7, 2) := by decide +kernel
theorem dX8_divisor_130 : decode cX8_divisor 130 = .ok (.imul, 1) := by decide +kernel
theorem dX8_divisor_131 : decode cX8_divisor 131 = .ok (.iload 4, 2) := by decide +kernel
theorem dX8_divisor_133 : decode cX8_divisor 133 = .ok (.iadd, 1) := by decide +kernel
theorem dX8_divisor_134 : decode cX8_divisor 134 = .ok (.iaload, 1) := by decide +kernel
theorem dX8_divisor_135 : decode cX8_divisor 135 = .ok (.if_icmp .ne 7, 3) := by decide +kernel
theorem dX8_divisor_138 : decode cX8_divisor 138 = .ok (.iconst 1, 1) := by decide +kernel
theorem dX8_divisor_139 : decode cX8_divisor 139 = .ok (.goto 4, 3) := by decide +kernel
theorem dX8_divisor_142 : decode cX8_divisor 142 = .ok (.iconst 0, 1) := by decide +kernel
theorem dX8_divisor_143 : decode cX8_divisor 143 = .ok (.istore 9, 2) := by decide +kernel
theorem dX8_divisor_145 : decode cX8_divisor 145 = .ok (.iload 9, 2) := by decide +kernel
theorem dX8_divisor_147 : decode cX8_divisor 147 = .ok (.ifCond .eq 11, 3) := by decide +kernel
theorem dX8_divisor_150 : decode cX8_divisor 150 = .ok (.iload 6, 2) := by decide +kernel
theorem dX8_divisor_152 : decode cX8_divisor 152 = .ok (.ifCond .ne 6, 3) := by decide +kernel
theorem dX8_divisor_155 : decode cX8_divisor 155 = .ok (.iload 8, 2) := by decide +kernel
theorem dX8_divisor_157 : decode cX8_divisor 157 = .ok (.ireturn, 1) := by decide +kernel
theorem dX8_divisor_158 : decode cX8_divisor 158 = .ok (.iload 6, 2) := by decide +kernel
theorem dX8_divisor_160 : decode cX8_divisor 160 = .ok (.iload 9, 2) := by decide +kernel
theorem dX8_divisor_162 : decode cX8_divisor 162 = .ok (.ifCond .eq 7, 3) := by decide +kernel
theorem dX8_divisor_165 : decode cX8_divisor 165 = .ok (.iconst 1, 1) := by decide +kernel
theorem dX8_divisor_166 : decode cX8_divisor 166 = .ok (.goto 4, 3) := by decide +kernel
theorem dX8_divisor_169 : decode cX8_divisor 169 = .ok (.iconst 0, 1) := by decide +kernel
theorem dX8_divisor_170 : decode cX8_divisor 170 = .ok (.isub, 1) := by decide +kernel
theorem dX8_divisor_171 : decode cX8_divisor 171 = .ok (.istore 6, 2) := by decide +kernel
theorem dX8_divisor_173 : decode cX8_divisor 173 = .ok (.iload 4, 2) := by decide +kernel
theorem dX8_divisor_175 : decode cX8_divisor 175 = .ok (.iload 9, 2) := by decide +kernel
theorem dX8_divisor_177 : decode cX8_divisor 177 = .ok (.ifCond .eq 8, 3) := by decide +kernel
theorem dX8_divisor_180 : decode cX8_divisor 180 = .ok (.iload 8, 2) := by decide +kernel
theorem dX8_divisor_182 : decode cX8_divisor 182 = .ok (.goto 4, 3) := by decide +kernel
theorem dX8_divisor_185 : decode cX8_divisor 185 = .ok (.iconst 0, 1) := by decide +kernel
theorem dX8_divisor_186 : decode cX8_divisor 186 = .ok (.isub, 1) := by decide +kernel
theorem dX8_divisor_187 : decode cX8_divisor 187 = .ok (.istore 4, 2) := by decide +kernel
theorem dX8_divisor_189 : decode cX8_divisor 189 = .ok (.iinc 7 (-1), 3) := by decide +kernel
theorem dX8_divisor_192 : decode cX8_divisor 192 = .ok (.goto (-121), 3) := by decide +kernel
theorem dX8_divisor_195 : decode cX8_divisor 195 = .ok (.bipush (-4), 2) := by decide +kernel
theorem dX8_divisor_197 : decode cX8_divisor 197 = .ok (.ireturn, 1) := by decide +kernel
abbrev po_X8_divisor (cI cJ : ClassId) (hX8 : Nat) (aX8_ups : Nat) (aX8_downs : Nat) (m_many : Int) (aX8_row : Nat) (m_isSpent : Int) (m_found : Int) (aX8_sumMany : Nat) (aX8_sumShares : Nat) (aX8_sumSet : Nat) (aX8_taken : Nat) (aX8_restUp : Nat) (aX8_restDown : Nat) (m_fewest : Int) (m_wishes : Int) (aX8_wished : Nat) (aX8_far : Nat) (aX8_queue : Nat) (aX8_divisors : Nat) (aX8_least : Nat) (m_pairOne : Int) (m_pairTwo : Int) (m_sumUp : Int) (m_sumDown : Int) (m_ups : Int → Int) (m_downs : Int → Int) (Q : Int → Int → (Int → Int) → (Int → Int) → Prop) : Option Value → va_W → Prop := fun rv w1 => ∃ (r0 : Int) (m_divided : Int) (m_divisors : Int → Int) (m_least : Int → Int), rv = some (.int (i32 r0)) ∧ w1 = [(hX8, .inr (7, [.ref aX8_ups, .ref aX8_downs, .int (i32 m_many), .ref aX8_row, .int (i32 m_isSpent), .int (i32 m_found), .ref aX8_sumMany, .ref aX8_sumShares, .ref aX8_sumSet, .ref aX8_taken, .ref aX8_restUp, .ref aX8_restDown, .int (i32 m_fewest), .int (i32 m_wishes), .ref aX8_wished, .ref aX8_far, .ref aX8_queue, .int (i32 m_divided), .ref aX8_divisors, .ref aX8_least, .long (i64 m_pairOne), .long (i64 m_pairTwo), .long (i64 m_sumUp), .long (i64 m_sumDown)])), (aX8_ups, aI cI 8 m_ups), (aX8_downs, aI cI 8 m_downs), (aX8_divisors, aI cI 60 m_divisors), (aX8_least, aI cI 305061 m_least)] ∧ r32 r0 ∧ r32 m_divided ∧ rr32 m_divisors ∧ rr32 m_least ∧ Q r0 m_divided m_divisors m_least
def wp_X8_divisor_12 (Q : Int → Int → (Int → Int) → (Int → Int) → Prop) (m_ups : Int → Int) (m_downs : Int → Int) (m_divided : Int) (m_divisors : Int → Int) (m_least : Int → Int) : Prop := Q (-1) m_divided m_divisors m_least
set_option maxHeartbeats 4000000 in
set_option maxRecDepth 100000 in
theorem s_X8_divisor_12 {X : Cx} (g : Gd X cX8_divisor RX8 (some .int) 10) (hR : X.R = rmL 4 0 0) (hX8 : Nat) (aX8_ups : Nat) (aX8_downs : Nat) (m_many : Int) (aX8_row : Nat) (m_isSpent : Int) (m_found : Int) (aX8_sumMany : Nat) (aX8_sumShares : Nat) (aX8_sumSet : Nat) (aX8_taken : Nat) (aX8_restUp : Nat) (aX8_restDown : Nat) (m_fewest : Int) (m_wishes : Int) (aX8_wished : Nat) (aX8_far : Nat) (aX8_queue : Nat) (aX8_divisors : Nat) (aX8_least : Nat) (m_pairOne : Int) (m_pairTwo : Int) (m_sumUp : Int) (m_sumDown : Int) (m_ups : Int → Int) (m_downs : Int → Int) (r_m_ups : rr32 m_ups) (r_m_downs : rr32 m_downs) (Q : Int → Int → (Int → Int) → (Int → Int) → Prop) (hF : FQ X 0 0 (po_X8_divisor X.cI X.cJ hX8 aX8_ups aX8_downs m_many aX8_row m_isSpent m_found aX8_sumMany aX8_sumShares aX8_sumSet aX8_taken aX8_restUp aX8_restDown m_fewest m_wishes aX8_wished aX8_far aX8_queue aX8_divisors aX8_least m_pairOne m_pairTwo m_sumUp m_sumDown m_ups m_downs Q)) : ∀ (m_divided : Int) (m_divisors : Int → Int) (m_least : Int → Int), r32 m_divided → rr32 m_divisors → rr32 m_least → wp_X8_divisor_12 Q m_ups m_downs m_divided m_divisors m_least → Wat X 0 0 12 [] [] [(hX8, .inr (7, [.ref aX8_ups, .ref aX8_downs, .int (i32 m_many), .ref aX8_row, .int (i32 m_isSpent), .int (i32 m_found), .ref aX8_sumMany, .ref aX8_sumShares, .ref aX8_sumSet, .ref aX8_taken, .ref aX8_restUp, .ref aX8_restDown, .int (i32 m_fewest), .int (i32 m_wishes), .ref aX8_wished, .ref aX8_far, .ref aX8_queue, .int (i32 m_divided), .ref aX8_divisors, .ref aX8_least, .long (i64 m_pairOne), .long (i64 m_pairTwo), .long (i64 m_sumUp), .long (i64 m_sumDown)])), (aX8_ups, aI X.cI 8 m_ups), (aX8_downs, aI X.cI 8 m_downs), (aX8_divisors, aI X.cI 60 m_divisors), (aX8_least, aI X.cI 305061 m_least)] := by
  intro m_divided m_divisors m_least r_m_divided r_m_divisors r_m_least h
  rw [wp_X8_divisor_12] at h
  refine q_iconst g (-1) dX8_divisor_12 ?_
  exact q_iret g hF ⟨(-1), m_divided, m_divisors, m_least, rfl, rfl, (r32_lit _ (by decide)), r_m_divided, r_m_divisors, r_m_least, h⟩ dX8_divisor_13
def wp_X8_divisor_186 (Q : Int → Int → (Int → Int) → (Int → Int) → Prop) (m_ups : Int → Int) (m_downs : Int → Int) (K_71 : Int → (Int → Int) → (Int → Int) → Int → Int → Int → Prop) (m_divided : Int) (m_divisors : Int → Int) (m_least : Int → Int) (l6 : Int) (l7 : Int) (k0 : Int) (k1 : Int) : Prop := (r32 (k0 - k1) ∧ ∀ x187 : Int, x187 = (k0 - k1) → r32 (l7 + (-1)) ∧ K_71 m_divided m_divisors m_least x187 l6 (l7 + (-1)))
set_option maxHeartbeats 4000000 in
set_option maxRecDepth 100000 in
theorem s_X8_divisor_186 {X : Cx} (g : Gd X cX8_divisor RX8 (some .int) 10) (hR : X.R = rmL 4 0 0) (hX8 : Nat) (aX8_ups : Nat) (aX8_downs : Nat) (m_many : Int) (aX8_row : Nat) (m_isSpent : Int) (m_found : Int) (aX8_sumMany : Nat) (aX8_sumShares : Nat) (aX8_sumSet : Nat) (aX8_taken : Nat) (aX8_restUp : Nat) (aX8_restDown : Nat) (m_fewest : Int) (m_wishes : Int) (aX8_wished : Nat) (aX8_far : Nat) (aX8_queue : Nat) (aX8_divisors : Nat) (aX8_least : Nat) (m_pairOne : Int) (m_pairTwo : Int) (m_sumUp : Int) (m_sumDown : Int) (m_ups : Int → Int) (m_downs : Int → Int) (r_m_ups : rr32 m_ups) (r_m_downs : rr32 m_downs) (Q : Int → Int → (Int → Int) → (Int → Int) → Prop) (hF : FQ X 0 0 (po_X8_divisor X.cI X.cJ hX8 aX8_ups aX8_downs m_many aX8_row m_isSpent m_found aX8_sumMany aX8_sumShares aX8_sumSet aX8_taken aX8_restUp aX8_restDown m_fewest m_wishes aX8_wished aX8_far aX8_queue aX8_divisors aX8_least m_pairOne m_pairTwo m_sumUp m_sumDown m_ups m_downs Q)) (K_71 : Int → (Int → Int) → (Int → Int) → Int → Int → Int → Prop) (hK_71 : ∀ (m_divided : Int) (m_divisors : Int → Int) (m_least : Int → Int) (l4 : Int) (l6 : Int) (l7 : Int), r32 m_divided → rr32 m_divisors → rr32 m_least → r32 l4 → r32 l6 → r32 l7 → K_71 m_divided m_divisors m_least l4 l6 l7 → Wat X 0 0 71 [(0, .ref hX8), (4, .int (i32 l4)), (6, .int (i32 l6)), (7, .int (i32 l7))] [] [(hX8, .inr (7, [.ref aX8_ups, .ref aX8_downs, .int (i32 m_many), .ref aX8_row, .int (i32 m_isSpent), .int (i32 m_found), .ref aX8_sumMany, .ref aX8_sumShares, .ref aX8_sumSet, .ref aX8_taken, .ref aX8_restUp, .ref aX8_restDown, .int (i32 m_fewest), .int (i32 m_wishes), .ref aX8_wished, .ref aX8_far, .ref aX8_queue, .int (i32 m_divided), .ref aX8_divisors, .ref aX8_least, .long (i64 m_pairOne), .long (i64 m_pairTwo), .long (i64 m_sumUp), .long (i64 m_sumDown)])), (aX8_ups, aI X.cI 8 m_ups), (aX8_downs, aI X.cI 8 m_downs), (aX8_divisors, aI X.cI 60 m_divisors), (aX8_least, aI X.cI 305061 m_least)]) : ∀ (m_divided : Int) (m_divisors : Int → Int) (m_least : Int → Int) (l6 : Int) (l7 : Int) (k0 : Int) (k1 : Int), r32 m_divided → rr32 m_divisors → rr32 m_least → r32 l6 → r32 l7 → r32 k0 → r32 k1 → wp_X8_divisor_186 Q m_ups m_downs K_71 m_divided m_divisors m_least l6 l7 k0 k1 → Wat X 0 0 186 [(0, .ref hX8), (6, .int (i32 l6)), (7, .int (i32 l7))] [.int (i32 k1), .int (i32 k0)] [(hX8, .inr (7, [.ref aX8_ups, .ref aX8_downs, .int (i32 m_many), .ref aX8_row, .int (i32 m_isSpent), .int (i32 m_found), .ref aX8_sumMany, .ref aX8_sumShares, .ref aX8_sumSet, .ref aX8_taken, .ref aX8_restUp, .ref aX8_restDown, .int (i32 m_fewest), .int (i32 m_wishes), .ref aX8_wished, .ref aX8_far, .ref aX8_queue, .int (i32 m_divided), .ref aX8_divisors, .ref aX8_least, .long (i64 m_pairOne), .long (i64 m_pairTwo), .long (i64 m_sumUp), .long (i64 m_sumDown)])), (aX8_ups, aI X.cI 8 m_ups), (aX8_downs, aI X.cI 8 m_downs), (aX8_divisors, aI X.cI 60 m_divisors), (aX8_least, aI X.cI 305061 m_least)] := by
  intro m_divided m_divisors m_least l6 l7 k0 k1 r_m_divided r_m_divisors r_m_least r_l6 r_l7 r_k0 r_k1 h
  rw [wp_X8_divisor_186] at h
  obtain ⟨c186, h⟩ := h
  refine q_isub g dX8_divisor_186 ?_
  refine q_topi c186 (fun x187 ex187 rx187 => ?_)
  replace h := h x187 ex187
  refine q_istore (lv' := [(4, .int (i32 x187)), (0, .ref hX8), (6, .int (i32 l6)), (7, .int (i32 l7))]) g 4   (by decide) rfl dX8_divisor_187 ?_
  obtain ⟨c189, h⟩ := h
  refine q_iinc (lv' := [(7, .int (i32 (l7 + (-1)))), (4, .int (i32 x187)), (0, .ref hX8), (6, .int (i32 l6))]) g 7 3 (-1) (by decide) rfl rfl dX8_divisor_189 ?_
  refine q_goto g (-121) 71 (by decide) dX8_divisor_192 ?_
  refine q_lv (lv' := [(0, .ref hX8), (4, .int (i32 x187)), (6, .int (i32 l6)), (7, .int (i32 (l7 + (-1))))]) [2, 1, 3, 0] rfl ?_
  exact hK_71 m_divided m_divisors m_least x187 l6 (l7 + (-1)) r_m_divided r_m_divisors r_m_least rx187 r_l6 c189 h
def wp_X8_divisor_170 (Q : Int → Int → (Int → Int) → (Int → Int) → Prop) (m_ups : Int → Int) (m_downs : Int → Int) (K_71 : Int → (Int → Int) → (Int → Int) → Int → Int → Int → Prop) (m_divided : Int) (m_divisors : Int → Int) (m_least : Int → Int) (l4 : Int) (l7 : Int) (l8 : Int) (l9 : Int) (k0 : Int) (k1 : Int) : Prop := (r32 (k0 - k1) ∧ ∀ x171 : Int, x171 = (k0 - k1) → ((l9 = 0 → wp_X8_divisor_186 Q m_ups m_downs K_71 m_divided m_divisors m_least x171 l7 l4 0) ∧
  (¬ (l9 = 0) → wp_X8_divisor_186 Q m_ups m_downs K_71 m_divided m_divisors m_least x171 l7 l4 l8)))
set_option maxHeartbeats 4000000 in
set_option maxRecDepth 100000 in
theorem s_X8_divisor_170 {X : Cx} (g : Gd X cX8_divisor RX8 (some .int) 10) (hR : X.R = rmL 4 0 0) (hX8 : Nat) (aX8_ups : Nat) (aX8_downs : Nat) (m_many : Int) (aX8_row : Nat) (m_isSpent : Int) (m_found : Int) (aX8_sumMany : Nat) (aX8_sumShares : Nat) (aX8_sumSet : Nat) (aX8_taken : Nat) (aX8_restUp : Nat) (aX8_restDown : Nat) (m_fewest : Int) (m_wishes : Int) (aX8_wished : Nat) (aX8_far : Nat) (aX8_queue : Nat) (aX8_divisors : Nat) (aX8_least : Nat) (m_pairOne : Int) (m_pairTwo : Int) (m_sumUp : Int) (m_sumDown : Int) (m_ups : Int → Int) (m_downs : Int → Int) (r_m_ups : rr32 m_ups) (r_m_downs : rr32 m_downs) (Q : Int → Int → (Int → Int) → (Int → Int) → Prop) (hF : FQ X 0 0 (po_X8_divisor X.cI X.cJ hX8 aX8_ups aX8_downs m_many aX8_row m_isSpent m_found aX8_sumMany aX8_sumShares aX8_sumSet aX8_taken aX8_restUp aX8_restDown m_fewest m_wishes aX8_wished aX8_far aX8_queue aX8_divisors aX8_least m_pairOne m_pairTwo m_sumUp m_sumDown m_ups m_downs Q)) (K_71 : Int → (Int → Int) → (Int → Int) → Int → Int → Int → Prop) (hK_71 : ∀ (m_divided : Int) (m_divisors : Int → Int) (m_least : Int → Int) (l4 : Int) (l6 : Int) (l7 : Int), r32 m_divided → rr32 m_divisors → rr32 m_least → r32 l4 → r32 l6 → r32 l7 → K_71 m_divided m_divisors m_least l4 l6 l7 → Wat X 0 0 71 [(0, .ref hX8), (4, .int (i32 l4)), (6, .int (i32 l6)), (7, .int (i32 l7))] [] [(hX8, .inr (7, [.ref aX8_ups, .ref aX8_downs, .int (i32 m_many), .ref aX8_row, .int (i32 m_isSpent), .int (i32 m_found), .ref aX8_sumMany, .ref aX8_sumShares, .ref aX8_sumSet, .ref aX8_taken, .ref aX8_restUp, .ref aX8_restDown, .int (i32 m_fewest), .int (i32 m_wishes), .ref aX8_wished, .ref aX8_far, .ref aX8_queue, .int (i32 m_divided), .ref aX8_divisors, .ref aX8_least, .long (i64 m_pairOne), .long (i64 m_pairTwo), .long (i64 m_sumUp), .long (i64 m_sumDown)])), (aX8_ups, aI X.cI 8 m_ups), (aX8_downs, aI X.cI 8 m_downs), (aX8_divisors, aI X.cI 60 m_divisors), (aX8_least, aI X.cI 305061 m_least)]) : ∀ (m_divided : Int) (m_divisors : Int → Int) (m_least : Int → Int) (l4 : Int) (l7 : Int) (l8 : Int) (l9 : Int) (k0 : Int) (k1 : Int), r32 m_divided → rr32 m_divisors → rr32 m_least → r32 l4 → r32 l7 → r32 l8 → r32 l9 → r32 k0 → r32 k1 → wp_X8_divisor_170 Q m_ups m_downs K_71 m_divided m_divisors m_least l4 l7 l8 l9 k0 k1 → Wat X 0 0 170 [(0, .ref hX8), (4, .int (i32 l4)), (7, .int (i32 l7)), (8, .int (i32 l8)), (9, .int (i32 l9))] [.int (i32 k1), .int (i32 k0)] [(hX8, .inr (7, [.ref aX8_ups, .ref aX8_downs, .int (i32 m_many), .ref aX8_row, .int (i32 m_isSpent), .int (i32 m_found), .ref aX8_sumMany, .ref aX8_sumShares, .ref aX8_sumSet, .ref aX8_taken, .ref aX8_restUp, .ref aX8_restDown, .int (i32 m_fewest), .int (i32 m_wishes), .ref aX8_wished, .ref aX8_far, .ref aX8_queue, .int (i32 m_divided), .ref aX8_divisors, .ref aX8_least, .long (i64 m_pairOne), .long (i64 m_pairTwo), .long (i64 m_sumUp), .long (i64 m_sumDown)])), (aX8_ups, aI X.cI 8 m_ups), (aX8_downs, aI X.cI 8 m_downs), (aX8_divisors, aI X.cI 60 m_divisors), (aX8_least, aI X.cI 305061 m_least)] := by
  intro m_divided m_divisors m_least l4 l7 l8 l9 k0 k1 r_m_divided r_m_divisors r_m_least r_l4 r_l7 r_l8 r_l9 r_k0 r_k1 h
  rw [wp_X8_divisor_170] at h
  obtain ⟨c170, h⟩ := h
  refine q_isub g dX8_divisor_170 ?_
  refine q_topi c170 (fun x171 ex171 rx171 => ?_)
  replace h := h x171 ex171
  refine q_istore (lv' := [(6, .int (i32 x171)), (0, .ref hX8), (4, .int (i32 l4)), (7, .int (i32 l7)), (8, .int (i32 l8)), (9, .int (i32 l9))]) g 6   (by decide) rfl dX8_divisor_171 ?_
  refine q_iload g 4 2 rfl dX8_divisor_173 ?_
  refine q_iload g 9 5 rfl dX8_divisor_175 ?_
  refine q_if_eq g (8) 185 r_l9 (by decide) dX8_divisor_177 (fun b177 => ?_) (fun b177 => ?_)
  · replace h := h.1 b177
    refine q_iconst g (0) dX8_divisor_185 ?_
    refine q_lv (lv' := [(0, .ref hX8), (6, .int (i32 x171)), (7, .int (i32 l7))]) [1, 0, 3] rfl ?_
    exact s_X8_divisor_186 g hR hX8 aX8_ups aX8_downs m_many aX8_row m_isSpent m_found aX8_sumMany aX8_sumShares aX8_sumSet aX8_taken aX8_restUp aX8_restDown m_fewest m_wishes aX8_wished aX8_far aX8_queue aX8_divisors aX8_least m_pairOne m_pairTwo m_sumUp m_sumDown m_ups m_downs r_m_ups r_m_downs Q hF K_71 hK_71 m_divided m_divisors m_least x171 l7 l4 0 r_m_divided r_m_divisors r_m_least rx171 r_l7 r_l4 (r32_lit _ (by decide)) h
  replace h := h.2 b177
  refine q_iload g 8 4 rfl dX8_divisor_180 ?_
  refine q_goto g (4) 186 (by decide) dX8_divisor_182 ?_
  refine q_lv (lv' := [(0, .ref hX8), (6, .int (i32 x171)), (7, .int (i32 l7))]) [1, 0, 3] rfl ?_
  exact s_X8_divisor_186 g hR hX8 aX8_ups aX8_downs m_many aX8_row m_isSpent m_found aX8_sumMany aX8_sumShares aX8_sumSet aX8_taken aX8_restUp aX8_restDown m_fewest m_wishes aX8_wished aX8_far aX8_queue aX8_divisors aX8_least m_pairOne m_pairTwo m_sumUp m_sumDown m_ups m_downs r_m_ups r_m_downs Q hF K_71 hK_71 m_divided m_divisors m_least x171 l7 l4 l8 r_m_divided r_m_divisors r_m_least rx171 r_l7 r_l4 r_l8 h
def wp_X8_divisor_158 (Q : Int → Int → (Int → Int) → (Int → Int) → Prop) (m_ups : Int → Int) (m_downs : Int → Int) (K_71 : Int → (Int → Int) → (Int → Int) → Int → Int → Int → Prop) (m_divided : Int) (m_divisors : Int → Int) (m_least : Int → Int) (l4 : Int) (l6 : Int) (l7 : Int) (l8 : Int) (l9 : Int) : Prop := ((l9 = 0 → wp_X8_divisor_170 Q m_ups m_downs K_71 m_divided m_divisors m_least l4 l7 l8 l9 l6 0) ∧
  (¬ (l9 = 0) → wp_X8_divisor_170 Q m_ups m_downs K_71 m_divided m_divisors m_least l4 l7 l8 l9 l6 1))
set_option maxHeartbeats 4000000 in
set_option maxRecDepth 100000 in
theorem s_X8_divisor_158 {X : Cx} (g : Gd X cX8_divisor RX8 (some .int) 10) (hR : X.R = rmL 4 0 0) (hX8 : Nat) (aX8_ups : Nat) (aX8_downs : Nat) (m_many : Int) (aX8_row : Nat) (m_isSpent : Int) (m_found : Int) (aX8_sumMany : Nat) (aX8_sumShares : Nat) (aX8_sumSet : Nat) (aX8_taken : Nat) (aX8_restUp : Nat) (aX8_restDown : Nat) (m_fewest : Int) (m_wishes : Int) (aX8_wished : Nat) (aX8_far : Nat) (aX8_queue : Nat) (aX8_divisors : Nat) (aX8_least : Nat) (m_pairOne : Int) (m_pairTwo : Int) (m_sumUp : Int) (m_sumDown : Int) (m_ups : Int → Int) (m_downs : Int → Int) (r_m_ups : rr32 m_ups) (r_m_downs : rr32 m_downs) (Q : Int → Int → (Int → Int) → (Int → Int) → Prop) (hF : FQ X 0 0 (po_X8_divisor X.cI X.cJ hX8 aX8_ups aX8_downs m_many aX8_row m_isSpent m_found aX8_sumMany aX8_sumShares aX8_sumSet aX8_taken aX8_restUp aX8_restDown m_fewest m_wishes aX8_wished aX8_far aX8_queue aX8_divisors aX8_least m_pairOne m_pairTwo m_sumUp m_sumDown m_ups m_downs Q)) (K_71 : Int → (Int → Int) → (Int → Int) → Int → Int → Int → Prop) (hK_71 : ∀ (m_divided : Int) (m_divisors : Int → Int) (m_least : Int → Int) (l4 : Int) (l6 : Int) (l7 : Int), r32 m_divided → rr32 m_divisors → rr32 m_least → r32 l4 → r32 l6 → r32 l7 → K_71 m_divided m_divisors m_least l4 l6 l7 → Wat X 0 0 71 [(0, .ref hX8), (4, .int (i32 l4)), (6, .int (i32 l6)), (7, .int (i32 l7))] [] [(hX8, .inr (7, [.ref aX8_ups, .ref aX8_downs, .int (i32 m_many), .ref aX8_row, .int (i32 m_isSpent), .int (i32 m_found), .ref aX8_sumMany, .ref aX8_sumShares, .ref aX8_sumSet, .ref aX8_taken, .ref aX8_restUp, .ref aX8_restDown, .int (i32 m_fewest), .int (i32 m_wishes), .ref aX8_wished, .ref aX8_far, .ref aX8_queue, .int (i32 m_divided), .ref aX8_divisors, .ref aX8_least, .long (i64 m_pairOne), .long (i64 m_pairTwo), .long (i64 m_sumUp), .long (i64 m_sumDown)])), (aX8_ups, aI X.cI 8 m_ups), (aX8_downs, aI X.cI 8 m_downs), (aX8_divisors, aI X.cI 60 m_divisors), (aX8_least, aI X.cI 305061 m_least)]) : ∀ (m_divided : Int) (m_divisors : Int → Int) (m_least : Int → Int) (l4 : Int) (l6 : Int) (l7 : Int) (l8 : Int) (l9 : Int), r32 m_divided → rr32 m_divisors → rr32 m_least → r32 l4 → r32 l6 → r32 l7 → r32 l8 → r32 l9 → wp_X8_divisor_158 Q m_ups m_downs K_71 m_divided m_divisors m_least l4 l6 l7 l8 l9 → Wat X 0 0 158 [(0, .ref hX8), (4, .int (i32 l4)), (6, .int (i32 l6)), (7, .int (i32 l7)), (8, .int (i32 l8)), (9, .int (i32 l9))] [] [(hX8, .inr (7, [.ref aX8_ups, .ref aX8_downs, .int (i32 m_many), .ref aX8_row, .int (i32 m_isSpent), .int (i32 m_found), .ref aX8_sumMany, .ref aX8_sumShares, .ref aX8_sumSet, .ref aX8_taken, .ref aX8_restUp, .ref aX8_restDown, .int (i32 m_fewest), .int (i32 m_wishes), .ref aX8_wished, .ref aX8_far, .ref aX8_queue, .int (i32 m_divided), .ref aX8_divisors, .ref aX8_least, .long (i64 m_pairOne), .long (i64 m_pairTwo), .long (i64 m_sumUp), .long (i64 m_sumDown)])), (aX8_ups, aI X.cI 8 m_ups), (aX8_downs, aI X.cI 8 m_downs), (aX8_divisors, aI X.cI 60 m_divisors), (aX8_least, aI X.cI 305061 m_least)] := by
  intro m_divided m_divisors m_least l4 l6 l7 l8 l9 r_m_divided r_m_divisors r_m_least r_l4 r_l6 r_l7 r_l8 r_l9 h
  rw [wp_X8_divisor_158] at h
  refine q_iload g 6 2 rfl dX8_divisor_158 ?_
  refine q_iload g 9 5 rfl dX8_divisor_160 ?_
  refine q_if_eq g (7) 169 r_l9 (by decide) dX8_divisor_162 (fun b162 => ?_) (fun b162 => ?_)
  · replace h := h.1 b162
    refine q_iconst g (0) dX8_divisor_169 ?_
    refine q_lv (lv' := [(0, .ref hX8), (4, .int (i32 l4)), (7, .int (i32 l7)), (8, .int (i32 l8)), (9, .int (i32 l9))]) [0, 1, 3, 4, 5] rfl ?_
    exact s_X8_divisor_170 g hR hX8 aX8_ups aX8_downs m_many aX8_row m_isSpent m_found aX8_sumMany aX8_sumShares aX8_sumSet aX8_taken aX8_restUp aX8_restDown m_fewest m_wishes aX8_wished aX8_far aX8_queue aX8_divisors aX8_least m_pairOne m_pairTwo m_sumUp m_sumDown m_ups m_downs r_m_ups r_m_downs Q hF K_71 hK_71 m_divided m_divisors m_least l4 l7 l8 l9 l6 0 r_m_divided r_m_divisors r_m_least r_l4 r_l7 r_l8 r_l9 r_l6 (r32_lit _ (by decide)) h
  replace h := h.2 b162
  refine q_iconst g (1) dX8_divisor_165 ?_
  refine q_goto g (4) 170 (by decide) dX8_divisor_166 ?_
  refine q_lv (lv' := [(0, .ref hX8), (4, .int (i32 l4)), (7, .int (i32 l7)), (8, .int (i32 l8)), (9, .int (i32 l9))]) [0, 1, 3, 4, 5] rfl ?_
  exact s_X8_divisor_170 g hR hX8 aX8_ups aX8_downs m_many aX8_row m_isSpent m_found aX8_sumMany aX8_sumShares aX8_sumSet aX8_taken aX8_restUp aX8_restDown m_fewest m_wishes aX8_wished aX8_far aX8_queue aX8_divisors aX8_least m_pairOne m_pairTwo m_sumUp m_sumDown m_ups m_downs r_m_ups r_m_downs Q hF K_71 hK_71 m_divided m_divisors m_least l4 l7 l8 l9 l6 1 r_m_divided r_m_divisors r_m_least r_l4 r_l7 r_l8 r_l9 r_l6 (r32_lit _ (by decide)) h
def wp_X8_divisor_143 (Q : Int → Int → (Int → Int) → (Int → Int) → Prop) (m_ups : Int → Int) (m_downs : Int → Int) (K_71 : Int → (Int → Int) → (Int → Int) → Int → Int → Int → Prop) (m_divided : Int) (m_divisors : Int → Int) (m_least : Int → Int) (l4 : Int) (l6 : Int) (l7 : Int) (l8 : Int) (k0 : Int) : Prop := ((k0 = 0 → wp_X8_divisor_158 Q m_ups m_downs K_71 m_divided m_divisors m_least l4 l6 l7 l8 k0) ∧
  (¬ (k0 = 0) → ((¬ l6 = 0 → wp_X8_divisor_158 Q m_ups m_downs K_71 m_divided m_divisors m_least l4 l6 l7 l8 k0) ∧
  (l6 = 0 → Q l8 m_divided m_divisors m_least))))
set_option maxHeartbeats 4000000 in
set_option maxRecDepth 100000 in
theorem s_X8_divisor_143 {X : Cx} (g : Gd X cX8_divisor RX8 (some .int) 10) (hR : X.R = rmL 4 0 0) (hX8 : Nat) (aX8_ups : Nat) (aX8_downs : Nat) (m_many : Int) (aX8_row : Nat) (m_isSpent : Int) (m_found : Int) (aX8_sumMany : Nat) (aX8_sumShares : Nat) (aX8_sumSet : Nat) (aX8_taken : Nat) (aX8_restUp : Nat) (aX8_restDown : Nat) (m_fewest : Int) (m_wishes : Int) (aX8_wished : Nat) (aX8_far : Nat) (aX8_queue : Nat) (aX8_divisors : Nat) (aX8_least : Nat) (m_pairOne : Int) (m_pairTwo : Int) (m_sumUp : Int) (m_sumDown : Int) (m_ups : Int → Int) (m_downs : Int → Int) (r_m_ups : rr32 m_ups) (r_m_downs : rr32 m_downs) (Q : Int → Int → (Int → Int) → (Int → Int) → Prop) (hF : FQ X 0 0 (po_X8_divisor X.cI X.cJ hX8 aX8_ups aX8_downs m_many aX8_row m_isSpent m_found aX8_sumMany aX8_sumShares aX8_sumSet aX8_taken aX8_restUp aX8_restDown m_fewest m_wishes aX8_wished aX8_far aX8_queue aX8_divisors aX8_least m_pairOne m_pairTwo m_sumUp m_sumDown m_ups m_downs Q)) (K_71 : Int → (Int → Int) → (Int → Int) → Int → Int → Int → Prop) (hK_71 : ∀ (m_divided : Int) (m_divisors : Int → Int) (m_least : Int → Int) (l4 : Int) (l6 : Int) (l7 : Int), r32 m_divided → rr32 m_divisors → rr32 m_least → r32 l4 → r32 l6 → r32 l7 → K_71 m_divided m_divisors m_least l4 l6 l7 → Wat X 0 0 71 [(0, .ref hX8), (4, .int (i32 l4)), (6, .int (i32 l6)), (7, .int (i32 l7))] [] [(hX8, .inr (7, [.ref aX8_ups, .ref aX8_downs, .int (i32 m_many), .ref aX8_row, .int (i32 m_isSpent), .int (i32 m_found), .ref aX8_sumMany, .ref aX8_sumShares, .ref aX8_sumSet, .ref aX8_taken, .ref aX8_restUp, .ref aX8_restDown, .int (i32 m_fewest), .int (i32 m_wishes), .ref aX8_wished, .ref aX8_far, .ref aX8_queue, .int (i32 m_divided), .ref aX8_divisors, .ref aX8_least, .long (i64 m_pairOne), .long (i64 m_pairTwo), .long (i64 m_sumUp), .long (i64 m_sumDown)])), (aX8_ups, aI X.cI 8 m_ups), (aX8_downs, aI X.cI 8 m_downs), (aX8_divisors, aI X.cI 60 m_divisors), (aX8_least, aI X.cI 305061 m_least)]) : ∀ (m_divided : Int) (m_divisors : Int → Int) (m_least : Int → Int) (l4 : Int) (l6 : Int) (l7 : Int) (l8 : Int) (k0 : Int), r32 m_divided → rr32 m_divisors → rr32 m_least → r32 l4 → r32 l6 → r32 l7 → r32 l8 → r32 k0 → wp_X8_divisor_143 Q m_ups m_downs K_71 m_divided m_divisors m_least l4 l6 l7 l8 k0 → Wat X 0 0 143 [(0, .ref hX8), (4, .int (i32 l4)), (6, .int (i32 l6)), (7, .int (i32 l7)), (8, .int (i32 l8))] [.int (i32 k0)] [(hX8, .inr (7, [.ref aX8_ups, .ref aX8_downs, .int (i32 m_many), .ref aX8_row, .int (i32 m_isSpent), .int (i32 m_found), .ref aX8_sumMany, .ref aX8_sumShares, .ref aX8_sumSet, .ref aX8_taken, .ref aX8_restUp, .ref aX8_restDown, .int (i32 m_fewest), .int (i32 m_wishes), .ref aX8_wished, .ref aX8_far, .ref aX8_queue, .int (i32 m_divided), .ref aX8_divisors, .ref aX8_least, .long (i64 m_pairOne), .long (i64 m_pairTwo), .long (i64 m_sumUp), .long (i64 m_sumDown)])), (aX8_ups, aI X.cI 8 m_ups), (aX8_downs, aI X.cI 8 m_downs), (aX8_divisors, aI X.cI 60 m_divisors), (aX8_least, aI X.cI 305061 m_least)] := by
  intro m_divided m_divisors m_least l4 l6 l7 l8 k0 r_m_divided r_m_divisors r_m_least r_l4 r_l6 r_l7 r_l8 r_k0 h
  rw [wp_X8_divisor_143] at h
  refine q_istore (lv' := [(9, .int (i32 k0)), (0, .ref hX8), (4, .int (i32 l4)), (6, .int (i32 l6)), (7, .int (i32 l7)), (8, .int (i32 l8))]) g 9   (by decide) rfl dX8_divisor_143 ?_
  refine q_iload g 9 0 rfl dX8_divisor_145 ?_
  refine q_if_eq g (11) 158 r_k0 (by decide) dX8_divisor_147 (fun b147 => ?_) (fun b147 => ?_)
  · replace h := h.1 b147
    refine q_lv (lv' := [(0, .ref hX8), (4, .int (i32 l4)), (6, .int (i32 l6)), (7, .int (i32 l7)), (8, .int (i32 l8)), (9, .int (i32 k0))]) [1, 2, 3, 4, 5, 0] rfl ?_
    exact s_X8_divisor_158 g hR hX8 aX8_ups aX8_downs m_many aX8_row m_isSpent m_found aX8_sumMany aX8_sumShares aX8_sumSet aX8_taken aX8_restUp aX8_restDown m_fewest m_wishes aX8_wished aX8_far aX8_queue aX8_divisors aX8_least m_pairOne m_pairTwo m_sumUp m_sumDown m_ups m_downs r_m_ups r_m_downs Q hF K_71 hK_71 m_divided m_divisors m_least l4 l6 l7 l8 k0 r_m_divided r_m_divisors r_m_least r_l4 r_l6 r_l7 r_l8 r_k0 h
  replace h := h.2 b147
  refine q_iload g 6 3 rfl dX8_divisor_150 ?_
  refine q_if_ne g (6) 158 r_l6 (by decide) dX8_divisor_152 (fun b152 => ?_) (fun b152 => ?_)
  · replace h := h.1 b152
    refine q_lv (lv' := [(0, .ref hX8), (4, .int (i32 l4)), (6, .int (i32 l6)), (7, .int (i32 l7)), (8, .int (i32 l8)), (9, .int (i32 k0))]) [1, 2, 3, 4, 5, 0] rfl ?_
    exact s_X8_divisor_158 g hR hX8 aX8_ups aX8_downs m_many aX8_row m_isSpent m_found aX8_sumMany aX8_sumShares aX8_sumSet aX8_taken aX8_restUp aX8_restDown m_fewest m_wishes aX8_wished aX8_far aX8_queue aX8_divisors aX8_least m_pairOne m_pairTwo m_sumUp m_sumDown m_ups m_downs r_m_ups r_m_downs Q hF K_71 hK_71 m_divided m_divisors m_least l4 l6 l7 l8 k0 r_m_divided r_m_divisors r_m_least r_l4 r_l6 r_l7 r_l8 r_k0 h
  replace h := h.2 b152
  refine q_iload g 8 5 rfl dX8_divisor_155 ?_
  exact q_iret g hF ⟨l8, m_divided, m_divisors, m_least, rfl, rfl, r_l8, r_m_divided, r_m_divisors, r_m_least, h⟩ dX8_divisor_157
def wp_X8_divisor_142 (Q : Int → Int → (Int → Int) → (Int → Int) → Prop) (m_ups : Int → Int) (m_downs : Int → Int) (K_71 : Int → (Int → Int) → (Int → Int) → Int → Int → Int → Prop) (m_divided : Int) (m_divisors : Int → Int) (m_least : Int → Int) (l4 : Int) (l6 : Int) (l7 : Int) (l8 : Int) : Prop := wp_X8_divisor_143 Q m_ups m_downs K_71 m_divided m_divisors m_least l4 l6 l7 l8 0
set_option maxHeartbeats 4000000 in
set_option maxRecDepth 100000 in
theorem s_X8_divisor_142 {X : Cx} (g : Gd X cX8_divisor RX8 (some .int) 10) (hR : X.R = rmL 4 0 0) (hX8 : Nat) (aX8_ups : Nat) (aX8_downs : Nat) (m_many : Int) (aX8_row : Nat) (m_isSpent : Int) (m_found : Int) (aX8_sumMany : Nat) (aX8_sumShares : Nat) (aX8_sumSet : Nat) (aX8_taken : Nat) (aX8_restUp : Nat) (aX8_restDown : Nat) (m_fewest : Int) (m_wishes : Int) (aX8_wished : Nat) (aX8_far : Nat) (aX8_queue : Nat) (aX8_divisors : Nat) (aX8_least : Nat) (m_pairOne : Int) (m_pairTwo : Int) (m_sumUp : Int) (m_sumDown : Int) (m_ups : Int → Int) (m_downs : Int → Int) (r_m_ups : rr32 m_ups) (r_m_downs : rr32 m_downs) (Q : Int → Int → (Int → Int) → (Int → Int) → Prop) (hF : FQ X 0 0 (po_X8_divisor X.cI X.cJ hX8 aX8_ups aX8_downs m_many aX8_row m_isSpent m_found aX8_sumMany aX8_sumShares aX8_sumSet aX8_taken aX8_restUp aX8_restDown m_fewest m_wishes aX8_wished aX8_far aX8_queue aX8_divisors aX8_least m_pairOne m_pairTwo m_sumUp m_sumDown m_ups m_downs Q)) (K_71 : Int → (Int → Int) → (Int → Int) → Int → Int → Int → Prop) (hK_71 : ∀ (m_divided : Int) (m_divisors : Int → Int) (m_least : Int → Int) (l4 : Int) (l6 : Int) (l7 : Int), r32 m_divided → rr32 m_divisors → rr32 m_least → r32 l4 → r32 l6 → r32 l7 → K_71 m_divided m_divisors m_least l4 l6 l7 → Wat X 0 0 71 [(0, .ref hX8), (4, .int (i32 l4)), (6, .int (i32 l6)), (7, .int (i32 l7))] [] [(hX8, .inr (7, [.ref aX8_ups, .ref aX8_downs, .int (i32 m_many), .ref aX8_row, .int (i32 m_isSpent), .int (i32 m_found), .ref aX8_sumMany, .ref aX8_sumShares, .ref aX8_sumSet, .ref aX8_taken, .ref aX8_restUp, .ref aX8_restDown, .int (i32 m_fewest), .int (i32 m_wishes), .ref aX8_wished, .ref aX8_far, .ref aX8_queue, .int (i32 m_divided), .ref aX8_divisors, .ref aX8_least, .long (i64 m_pairOne), .long (i64 m_pairTwo), .long (i64 m_sumUp), .long (i64 m_sumDown)])), (aX8_ups, aI X.cI 8 m_ups), (aX8_downs, aI X.cI 8 m_downs), (aX8_divisors, aI X.cI 60 m_divisors), (aX8_least, aI X.cI 305061 m_least)]) : ∀ (m_divided : Int) (m_divisors : Int → Int) (m_least : Int → Int) (l4 : Int) (l6 : Int) (l7 : Int) (l8 : Int), r32 m_divided → rr32 m_divisors → rr32 m_least → r32 l4 → r32 l6 → r32 l7 → r32 l8 → wp_X8_divisor_142 Q m_ups m_downs K_71 m_divided m_divisors m_least l4 l6 l7 l8 → Wat X 0 0 142 [(0, .ref hX8), (4, .int (i32 l4)), (6, .int (i32 l6)), (7, .int (i32 l7)), (8, .int (i32 l8))] [] [(hX8, .inr (7, [.ref aX8_ups, .ref aX8_downs, .int (i32 m_many), .ref aX8_row, .int (i32 m_isSpent), .int (i32 m_found), .ref aX8_sumMany, .ref aX8_sumShares, .ref aX8_sumSet, .ref aX8_taken, .ref aX8_restUp, .ref aX8_restDown, .int (i32 m_fewest), .int (i32 m_wishes), .ref aX8_wished, .ref aX8_far, .ref aX8_queue, .int (i32 m_divided), .ref aX8_divisors, .ref aX8_least, .long (i64 m_pairOne), .long (i64 m_pairTwo), .long (i64 m_sumUp), .long (i64 m_sumDown)])), (aX8_ups, aI X.cI 8 m_ups), (aX8_downs, aI X.cI 8 m_downs), (aX8_divisors, aI X.cI 60 m_divisors), (aX8_least, aI X.cI 305061 m_least)] := by
  intro m_divided m_divisors m_least l4 l6 l7 l8 r_m_divided r_m_divisors r_m_least r_l4 r_l6 r_l7 r_l8 h
  rw [wp_X8_divisor_142] at h
  refine q_iconst g (0) dX8_divisor_142 ?_
  exact s_X8_divisor_143 g hR hX8 aX8_ups aX8_downs m_many aX8_row m_isSpent m_found aX8_sumMany aX8_sumShares aX8_sumSet aX8_taken aX8_restUp aX8_restDown m_fewest m_wishes aX8_wished aX8_far aX8_queue aX8_divisors aX8_least m_pairOne m_pairTwo m_sumUp m_sumDown m_ups m_downs r_m_ups r_m_downs Q hF K_71 hK_71 m_divided m_divisors m_least l4 l6 l7 l8 0 r_m_divided r_m_divisors r_m_least r_l4 r_l6 r_l7 r_l8 (r32_lit _ (by decide)) h
def wp_X8_divisor_195 (Q : Int → Int → (Int → Int) → (Int → Int) → Prop) (m_ups : Int → Int) (m_downs : Int → Int) (m_divided : Int) (m_divisors : Int → Int) (m_least : Int → Int) : Prop := Q (-4) m_divided m_divisors m_least
set_option maxHeartbeats 4000000 in
set_option maxRecDepth 100000 in
theorem s_X8_divisor_195 {X : Cx} (g : Gd X cX8_divisor RX8 (some .int) 10) (hR : X.R = rmL 4 0 0) (hX8 : Nat) (aX8_ups : Nat) (aX8_downs : Nat) (m_many : Int) (aX8_row : Nat) (m_isSpent : Int) (m_found : Int) (aX8_sumMany : Nat) (aX8_sumShares : Nat) (aX8_sumSet : Nat) (aX8_taken : Nat) (aX8_restUp : Nat) (aX8_restDown : Nat) (m_fewest : Int) (m_wishes : Int) (aX8_wished : Nat) (aX8_far : Nat) (aX8_queue : Nat) (aX8_divisors : Nat) (aX8_least : Nat) (m_pairOne : Int) (m_pairTwo : Int) (m_sumUp : Int) (m_sumDown : Int) (m_ups : Int → Int) (m_downs : Int → Int) (r_m_ups : rr32 m_ups) (r_m_downs : rr32 m_downs) (Q : Int → Int → (Int → Int) → (Int → Int) → Prop) (hF : FQ X 0 0 (po_X8_divisor X.cI X.cJ hX8 aX8_ups aX8_downs m_many aX8_row m_isSpent m_found aX8_sumMany aX8_sumShares aX8_sumSet aX8_taken aX8_restUp aX8_restDown m_fewest m_wishes aX8_wished aX8_far aX8_queue aX8_divisors aX8_least m_pairOne m_pairTwo m_sumUp m_sumDown m_ups m_downs Q)) : ∀ (m_divided : Int) (m_divisors : Int → Int) (m_least : Int → Int), r32 m_divided → rr32 m_divisors → rr32 m_least → wp_X8_divisor_195 Q m_ups m_downs m_divided m_divisors m_least → Wat X 0 0 195 [] [] [(hX8, .inr (7, [.ref aX8_ups, .ref aX8_downs, .int (i32 m_many), .ref aX8_row, .int (i32 m_isSpent), .int (i32 m_found), .ref aX8_sumMany, .ref aX8_sumShares, .ref aX8_sumSet, .ref aX8_taken, .ref aX8_restUp, .ref aX8_restDown, .int (i32 m_fewest), .int (i32 m_wishes), .ref aX8_wished, .ref aX8_far, .ref aX8_queue, .int (i32 m_divided), .ref aX8_divisors, .ref aX8_least, .long (i64 m_pairOne), .long (i64 m_pairTwo), .long (i64 m_sumUp), .long (i64 m_sumDown)])), (aX8_ups, aI X.cI 8 m_ups), (aX8_downs, aI X.cI 8 m_downs), (aX8_divisors, aI X.cI 60 m_divisors), (aX8_least, aI X.cI 305061 m_least)] := by
  intro m_divided m_divisors m_least r_m_divided r_m_divisors r_m_least h
  rw [wp_X8_divisor_195] at h
  refine q_bipush g (-4) (by decide) (by decide) dX8_divisor_195 ?_
  exact q_iret g hF ⟨(-4), m_divided, m_divisors, m_least, rfl, rfl, (r32_lit _ (by decide)), r_m_divided, r_m_divisors, r_m_least, h⟩ dX8_divisor_197
def wp_X8_divisor_71 (Q : Int → Int → (Int → Int) → (Int → Int) → Prop) (m_ups : Int → Int) (m_downs : Int → Int) : Nat → Int → (Int → Int) → (Int → Int) → Int → Int → Int → Prop
  | 0, _, _, _, _, _, _ => False
  | n + 1, m_divided, m_divisors, m_least, l4, l6, l7 => ((l7 < 1 → wp_X8_divisor_195 Q m_ups m_downs m_divided m_divisors m_least) ∧
  (¬ (l7 < 1) → ((l4 ≤ 0 → wp_X8_divisor_195 Q m_ups m_downs m_divided m_divisors m_least) ∧
  (¬ (l4 ≤ 0) → (r32 (l7 - 1) ∧ 0 ≤ (l7 - 1) ∧ (l7 - 1) < 60 ∧ ∀ x91 : Int, x91 = (m_divisors (l7 - 1)) → ((l4 < x91 → wp_X8_divisor_142 Q m_ups m_downs (wp_X8_divisor_71 Q m_ups m_downs n) m_divided m_divisors m_least l4 l6 l7 x91) ∧
  (¬ (l4 < x91) → (r32 (l7 - 1) ∧ r32 (5001 * (l7 - 1)) ∧ r32 ((5001 * (l7 - 1)) + l4) ∧ r32 (((5001 * (l7 - 1)) + l4) - x91) ∧ 0 ≤ (((5001 * (l7 - 1)) + l4) - x91) ∧ (((5001 * (l7 - 1)) + l4) - x91) < 305061 ∧ r32 ((m_least (((5001 * (l7 - 1)) + l4) - x91)) + 1) ∧ r32 (5001 * l7) ∧ r32 ((5001 * l7) + l4) ∧ 0 ≤ ((5001 * l7) + l4) ∧ ((5001 * l7) + l4) < 305061 ∧ ((¬ ((m_least (((5001 * (l7 - 1)) + l4) - x91)) + 1) = (m_least ((5001 * l7) + l4)) → wp_X8_divisor_142 Q m_ups m_downs (wp_X8_divisor_71 Q m_ups m_downs n) m_divided m_divisors m_least l4 l6 l7 x91) ∧
  (((m_least (((5001 * (l7 - 1)) + l4) - x91)) + 1) = (m_least ((5001 * l7) + l4)) → wp_X8_divisor_143 Q m_ups m_downs (wp_X8_divisor_71 Q m_ups m_downs n) m_divided m_divisors m_least l4 l6 l7 x91 1))))))))))
set_option maxHeartbeats 4000000 in
set_option maxRecDepth 100000 in
theorem s_X8_divisor_71 {X : Cx} (g : Gd X cX8_divisor RX8 (some .int) 10) (hR : X.R = rmL 4 0 0) (hX8 : Nat) (aX8_ups : Nat) (aX8_downs : Nat) (m_many : Int) (aX8_row : Nat) (m_isSpent : Int) (m_found : Int) (aX8_sumMany : Nat) (aX8_sumShares : Nat) (aX8_sumSet : Nat) (aX8_taken : Nat) (aX8_restUp : Nat) (aX8_restDown : Nat) (m_fewest : Int) (m_wishes : Int) (aX8_wished : Nat) (aX8_far : Nat) (aX8_queue : Nat) (aX8_divisors : Nat) (aX8_least : Nat) (m_pairOne : Int) (m_pairTwo : Int) (m_sumUp : Int) (m_sumDown : Int) (m_ups : Int → Int) (m_downs : Int → Int) (r_m_ups : rr32 m_ups) (r_m_downs : rr32 m_downs) (Q : Int → Int → (Int → Int) → (Int → Int) → Prop) (hF : FQ X 0 0 (po_X8_divisor X.cI X.cJ hX8 aX8_ups aX8_downs m_many aX8_row m_isSpent m_found aX8_sumMany aX8_sumShares aX8_sumSet aX8_taken aX8_restUp aX8_restDown m_fewest m_wishes aX8_wished aX8_far aX8_queue aX8_divisors aX8_least m_pairOne m_pairTwo m_sumUp m_sumDown m_ups m_downs Q)) : ∀ (n : Nat) (m_divided : Int) (m_divisors : Int → Int) (m_least : Int → Int) (l4 : Int) (l6 : Int) (l7 : Int), r32 m_divided → rr32 m_divisors → rr32 m_least → r32 l4 → r32 l6 → r32 l7 → wp_X8_divisor_71 Q m_ups m_downs n m_divided m_divisors m_least l4 l6 l7 → Wat X 0 0 71 [(0, .ref hX8), (4, .int (i32 l4)), (6, .int (i32 l6)), (7, .int (i32 l7))] [] [(hX8, .inr (7, [.ref aX8_ups, .ref aX8_downs, .int (i32 m_many), .ref aX8_row, .int (i32 m_isSpent), .int (i32 m_found), .ref aX8_sumMany, .ref aX8_sumShares, .ref aX8_sumSet, .ref aX8_taken, .ref aX8_restUp, .ref aX8_restDown, .int (i32 m_fewest), .int (i32 m_wishes), .ref aX8_wished, .ref aX8_far, .ref aX8_queue, .int (i32 m_divided), .ref aX8_divisors, .ref aX8_least, .long (i64 m_pairOne), .long (i64 m_pairTwo), .long (i64 m_sumUp), .long (i64 m_sumDown)])), (aX8_ups, aI X.cI 8 m_ups), (aX8_downs, aI X.cI 8 m_downs), (aX8_divisors, aI X.cI 60 m_divisors), (aX8_least, aI X.cI 305061 m_least)] := by
  intro n
  induction n with
  | zero => intro m_divided m_divisors m_least l4 l6 l7 r_m_divided r_m_divisors r_m_least r_l4 r_l6 r_l7 h; exact False.elim h
  | succ n ih =>
    intro m_divided m_divisors m_least l4 l6 l7 r_m_divided r_m_divisors r_m_least r_l4 r_l6 r_l7 h
    rw [wp_X8_divisor_71] at h
    refine q_iload g 7 3 rfl dX8_divisor_71 ?_
    refine q_iconst g (1) dX8_divisor_73 ?_
    refine q_icmp_lt g (121) 195 r_l7 (r32_lit _ (by decide)) (by decide) dX8_divisor_74 (fun b74 => ?_) (fun b74 => ?_)
    · replace h := h.1 b74
      refine q_lv (lv' := []) [] rfl ?_
      exact s_X8_divisor_195 g hR hX8 aX8_ups aX8_downs m_many aX8_row m_isSpent m_found aX8_sumMany aX8_sumShares aX8_sumSet aX8_taken aX8_restUp aX8_restDown m_fewest m_wishes aX8_wished aX8_far aX8_queue aX8_divisors aX8_least m_pairOne m_pairTwo m_sumUp m_sumDown m_ups m_downs r_m_ups r_m_downs Q hF m_divided m_divisors m_least r_m_divided r_m_divisors r_m_least h
    replace h := h.2 b74
    refine q_iload g 4 1 rfl dX8_divisor_77 ?_
    refine q_if_le g (116) 195 r_l4 (by decide) dX8_divisor_79 (fun b79 => ?_) (fun b79 => ?_)
    · replace h := h.1 b79
      refine q_lv (lv' := []) [] rfl ?_
      exact s_X8_divisor_195 g hR hX8 aX8_ups aX8_downs m_many aX8_row m_isSpent m_found aX8_sumMany aX8_sumShares aX8_sumSet aX8_taken aX8_restUp aX8_restDown m_fewest m_wishes aX8_wished aX8_far aX8_queue aX8_divisors aX8_least m_pairOne m_pairTwo m_sumUp m_sumDown m_ups m_downs r_m_ups r_m_downs Q hF m_divided m_divisors m_least r_m_divided r_m_divisors r_m_least h
    replace h := h.2 b79
    refine q_aload_n g 0 0 rfl dX8_divisor_82 ?_
    refine q_get (C := RX8) (T := TX8) (N := 24) g 51 inX8 0 18 rfl rfl (by decide) wF_X8_51 rfl dX8_divisor_83 ?_
    refine q_iload g 7 3 rfl dX8_divisor_86 ?_
    refine q_iconst g (1) dX8_divisor_88 ?_
    obtain ⟨c89, h⟩ := h
    refine q_isub g dX8_divisor_89 ?_
    obtain ⟨c90, h⟩ := h
    obtain ⟨e90, h⟩ := h
    refine q_iald g 3 rfl c90 e90 (by decide) dX8_divisor_90 ?_
    refine q_topi (r_m_divisors _) (fun x91 ex91 rx91 => ?_)
    replace h := h x91 ex91
    refine q_istore (lv' := [(8, .int (i32 x91)), (0, .ref hX8), (4, .int (i32 l4)), (6, .int (i32 l6)), (7, .int (i32 l7))]) g 8   (by decide) rfl dX8_divisor_91 ?_
    refine q_iload g 4 2 rfl dX8_divisor_93 ?_
    refine q_iload g 8 0 rfl dX8_divisor_95 ?_
    refine q_icmp_lt g (45) 142 r_l4 rx91 (by decide) dX8_divisor_97 (fun b97 => ?_) (fun b97 => ?_)
    · replace h := h.1 b97
      refine q_lv (lv' := [(0, .ref hX8), (4, .int (i32 l4)), (6, .int (i32 l6)), (7, .int (i32 l7)), (8, .int (i32 x91))]) [1, 2, 3, 4, 0] rfl ?_
      exact s_X8_divisor_142 g hR hX8 aX8_ups aX8_downs m_many aX8_row m_isSpent m_found aX8_sumMany aX8_sumShares aX8_sumSet aX8_taken aX8_restUp aX8_restDown m_fewest m_wishes aX8_wished aX8_far aX8_queue aX8_divisors aX8_least m_pairOne m_pairTwo m_sumUp m_sumDown m_ups m_downs r_m_ups r_m_downs Q hF (wp_X8_divisor_71 Q m_ups m_downs n) (fun v0 v1 v2 v3 v4 v5 w0 w1 w2 w3 w4 w5 hh => ih v0 v1 v2 v3 v4 v5 w0 w1 w2 w3 w4 w5 hh) m_divided m_divisors m_least l4 l6 l7 x91 r_m_divided r_m_divisors r_m_least r_l4 r_l6 r_l7 rx91 h
    replace h := h.2 b97
    refine q_aload_n g 0 1 rfl dX8_divisor_100 ?_
    refine q_get (C := RX8) (T := TX8) (N := 24) g 55 inX8 0 19 rfl rfl (by decide) wF_X8_55 rfl dX8_divisor_101 ?_
    refine q_sipush g (5001) (by decide) (by decide) dX8_divisor_104 ?_
    refine q_iload g 7 4 rfl dX8_divisor_107 ?_
    refine q_iconst g (1) dX8_divisor_109 ?_
    obtain ⟨c110, h⟩ := h
    refine q_isub g dX8_divisor_110 ?_
    obtain ⟨c111, h⟩ := h
    refine q_imul g dX8_divisor_111 ?_
    refine q_iload g 4 2 rfl dX8_divisor_112 ?_
    obtain ⟨c114, h⟩ := h
    refine q_iadd g dX8_divisor_114 ?_
    refine q_iload g 8 0 rfl dX8_divisor_115 ?_
    obtain ⟨c117, h⟩ := h
    refine q_isub g dX8_divisor_117 ?_
    obtain ⟨c118, h⟩ := h
    obtain ⟨e118, h⟩ := h
    refine q_iald g 4 rfl c118 e118 (by decide) dX8_divisor_118 ?_
    refine q_iconst g (1) dX8_divisor_119 ?_
    obtain ⟨c120, h⟩ := h
    refine q_iadd g dX8_divisor_120 ?_
    refine q_aload_n g 0 1 rfl dX8_divisor_121 ?_
    refine q_get (C := RX8) (T := TX8) (N := 24) g 55 inX8 0 19 rfl rfl (by decide) wF_X8_55 rfl dX8_divisor_122 ?_
    refine q_sipush g (5001) (by decide) (by decide) dX8_divisor_125 ?_
    refine q_iload g 7 4 rfl dX8_divisor_128 ?_
    obtain ⟨c130, h⟩ := h
    refine q_imul g dX8_divisor_130 ?_
    refine q_iload g 4 2 rfl dX8_divisor_131 ?_
    obtain ⟨c133, h⟩ := h
    refine q_iadd g dX8_divisor_133 ?_
    obtain ⟨c134, h⟩ := h
    obtain ⟨e134, h⟩ := h
    refine q_iald g 4 rfl c134 e134 (by decide) dX8_divisor_134 ?_
    refine q_icmp_ne g (7) 142 c120 (r_m_least _) (by decide) dX8_divisor_135 (fun b135 => ?_) (fun b135 => ?_)
    · replace h := h.1 b135
      refine q_lv (lv' := [(0, .ref hX8), (4, .int (i32 l4)), (6, .int (i32 l6)), (7, .int (i32 l7)), (8, .int (i32 x91))]) [1, 2, 3, 4, 0] rfl ?_
      exact s_X8_divisor_142 g hR hX8 aX8_ups aX8_downs m_many aX8_row m_isSpent m_found aX8_sumMany aX8_sumShares aX8_sumSet aX8_taken aX8_restUp aX8_restDown m_fewest m_wishes aX8_wished aX8_far aX8_queue aX8_divisors aX8_least m_pairOne m_pairTwo m_sumUp m_sumDown m_ups m_downs r_m_ups r_m_downs Q hF (wp_X8_divisor_71 Q m_ups m_downs n) (fun v0 v1 v2 v3 v4 v5 w0 w1 w2 w3 w4 w5 hh => ih v0 v1 v2 v3 v4 v5 w0 w1 w2 w3 w4 w5 hh) m_divided m_divisors m_least l4 l6 l7 x91 r_m_divided r_m_divisors r_m_least r_l4 r_l6 r_l7 rx91 h
    replace h := h.2 b135
    refine q_iconst g (1) dX8_divisor_138 ?_
    refine q_goto g (4) 143 (by decide) dX8_divisor_139 ?_
    refine q_lv (lv' := [(0, .ref hX8), (4, .int (i32 l4)), (6, .int (i32 l6)), (7, .int (i32 l7)), (8, .int (i32 x91))]) [1, 2, 3, 4, 0] rfl ?_
    exact s_X8_divisor_143 g hR hX8 aX8_ups aX8_downs m_many aX8_row m_isSpent m_found aX8_sumMany aX8_sumShares aX8_sumSet aX8_taken aX8_restUp aX8_restDown m_fewest m_wishes aX8_wished aX8_far aX8_queue aX8_divisors aX8_least m_pairOne m_pairTwo m_sumUp m_sumDown m_ups m_downs r_m_ups r_m_downs Q hF (wp_X8_divisor_71 Q m_ups m_downs n) (fun v0 v1 v2 v3 v4 v5 w0 w1 w2 w3 w4 w5 hh => ih v0 v1 v2 v3 v4 v5 w0 w1 w2 w3 w4 w5 hh) m_divided m_divisors m_least l4 l6 l7 x91 1 r_m_divided r_m_divisors r_m_least r_l4 r_l6 r_l7 rx91 (r32_lit _ (by decide)) h
def wp_X8_divisor (Q : Int → Int → (Int → Int) → (Int → Int) → Prop) (m_ups : Int → Int) (m_downs : Int → Int) (m_divided : Int) (m_divisors : Int → Int) (m_least : Int → Int) (l1 : Int) (l2 : Int) : Prop := wp_X8_isRegister (fun (x1 : Int) => ((x1 = 0 → wp_X8_divisor_12 Q m_ups m_downs m_divided m_divisors m_least) ∧
  (¬ (x1 = 0) → (((-1) ≤ l2 → wp_X8_multipleOf (fun (x16 : Int) (m_divided_16 : Int) (m_divisors_16 : Int → Int) (m_least_16 : Int → Int) => ((0 ≤ x16 → (0 ≤ l1 ∧ l1 < 8 ∧ r32 ((m_ups l1) * x16) ∧ ∀ x34 : Int, x34 = ((m_ups l1) * x16) → r32 (5001 * m_divided_16) ∧ r32 ((5001 * m_divided_16) + x34) ∧ 0 ≤ ((5001 * m_divided_16) + x34) ∧ ((5001 * m_divided_16) + x34) < 305061 ∧ ∀ x52 : Int, x52 = (m_least_16 ((5001 * m_divided_16) + x34)) → ((¬ l2 = (-1) → (∃ n0 : Nat, wp_X8_divisor_71 Q m_ups m_downs n0 m_divided_16 m_divisors_16 m_least_16 x34 l2 m_divided_16)) ∧
  (l2 = (-1) → Q x52 m_divided_16 m_divisors_16 m_least_16)))) ∧
  (¬ (0 ≤ x16) → Q x16 m_divided_16 m_divisors_16 m_least_16))) m_ups m_downs m_divided m_divisors m_least l1) ∧
  (¬ ((-1) ≤ l2) → wp_X8_divisor_12 Q m_ups m_downs m_divided m_divisors m_least))))) l1
set_option maxHeartbeats 4000000 in
set_option maxRecDepth 100000 in
theorem c_X8_divisor (l : Launch) (D : va_G) (cI cJ : ClassId) (zt : Nat) (hX8 : Nat) (aX8_ups : Nat) (aX8_downs : Nat) (m_many : Int) (aX8_row : Nat) (m_isSpent : Int) (m_found : Int) (aX8_sumMany : Nat) (aX8_sumShares : Nat) (aX8_sumSet : Nat) (aX8_taken : Nat) (aX8_restUp : Nat) (aX8_restDown : Nat) (m_fewest : Int) (m_wishes : Int) (aX8_wished : Nat) (aX8_far : Nat) (aX8_queue : Nat) (m_divided : Int) (aX8_divisors : Nat) (aX8_least : Nat) (m_pairOne : Int) (m_pairTwo : Int) (m_sumUp : Int) (m_sumDown : Int) (m_ups : Int → Int) (m_downs : Int → Int) (m_divisors : Int → Int) (m_least : Int → Int) (l1 : Int) (l2 : Int) (Q : Int → Int → (Int → Int) → (Int → Int) → Prop) (r_m_ups : rr32 m_ups) (r_m_downs : rr32 m_downs) (r_m_divided : r32 m_divided) (r_m_divisors : rr32 m_divisors) (r_m_least : rr32 m_least) (r_l1 : r32 l1) (r_l2 : r32 l2) (h : wp_X8_divisor Q m_ups m_downs m_divided m_divisors m_least l1 l2) : Ct l D cI cJ zt yX8_divisor cX8_divisor 10 (some .int) 4 0 0 [.ref hX8, .int (i32 l1), .int (i32 l2)] [(hX8, .inr (7, [.ref aX8_ups, .ref aX8_downs, .int (i32 m_many), .ref aX8_row, .int (i32 m_isSpent), .int (i32 m_found), .ref aX8_sumMany, .ref aX8_sumShares, .ref aX8_sumSet, .ref aX8_taken, .ref aX8_restUp, .ref aX8_restDown, .int (i32 m_fewest), .int (i32 m_wishes), .ref aX8_wished, .ref aX8_far, .ref aX8_queue, .int (i32 m_divided), .ref aX8_divisors, .ref aX8_least, .long (i64 m_pairOne), .long (i64 m_pairTwo), .long (i64 m_sumUp), .long (i64 m_sumDown)])), (aX8_ups, aI cI 8 m_ups), (aX8_downs, aI cI 8 m_downs), (aX8_divisors, aI cI 60 m_divisors), (aX8_least, aI cI 305061 m_least)] (po_X8_divisor cI cJ hX8 aX8_ups aX8_downs m_many aX8_row m_isSpent m_found aX8_sumMany aX8_sumShares aX8_sumSet aX8_taken aX8_restUp aX8_restDown m_fewest m_wishes aX8_wished aX8_far aX8_queue aX8_divisors aX8_least m_pairOne m_pairTwo m_sumUp m_sumDown m_ups m_downs Q) := by
  refine ct_of (by decide +kernel) (Nat.le_of_ble_eq_true rfl) (fun X hl hDD hcI hcJ hzt hR hF hnm g => ?_)
  subst hl; subst hDD; subst hcI; subst hcJ; subst hzt
  show Wat X 0 0 0 [(0, .ref hX8), (1, .int (i32 l1)), (2, .int (i32 l2))] [] [(hX8, .inr (7, [.ref aX8_ups, .ref aX8_downs, .int (i32 m_many), .ref aX8_row, .int (i32 m_isSpent), .int (i32 m_found), .ref aX8_sumMany, .ref aX8_sumShares, .ref aX8_sumSet, .ref aX8_taken, .ref aX8_restUp, .ref aX8_restDown, .int (i32 m_fewest), .int (i32 m_wishes), .ref aX8_wished, .ref aX8_far, .ref aX8_queue, .int (i32 m_divided), .ref aX8_divisors, .ref aX8_least, .long (i64 m_pairOne), .long (i64 m_pairTwo), .long (i64 m_sumUp), .long (i64 m_sumDown)])), (aX8_ups, aI X.cI 8 m_ups), (aX8_downs, aI X.cI 8 m_downs), (aX8_divisors, aI X.cI 60 m_divisors), (aX8_least, aI X.cI 305061 m_least)]
  replace g : Gd X cX8_divisor RX8 (some .int) 10 := g
  rw [wp_X8_divisor] at h
  refine q_iload_n g 1 1 rfl dX8_divisor_0 ?_
  refine q_callS (lev := 2) (mc := 0) (ms := 0) (As := [.int (i32 l1)]) g 68 (c_X8_isRegister X.l X.D X.cI X.cJ X.zt l1 _ r_l1 h) (wr := [(hX8, .inr (7, [.ref aX8_ups, .ref aX8_downs, .int (i32 m_many), .ref aX8_row, .int (i32 m_isSpent), .int (i32 m_found), .ref aX8_sumMany, .ref aX8_sumShares, .ref aX8_sumSet, .ref aX8_taken, .ref aX8_restUp, .ref aX8_restDown, .int (i32 m_fewest), .int (i32 m_wishes), .ref aX8_wished, .ref aX8_far, .ref aX8_queue, .int (i32 m_divided), .ref aX8_divisors, .ref aX8_least, .long (i64 m_pairOne), .long (i64 m_pairTwo), .long (i64 m_sumUp), .long (i64 m_sumDown)])), (aX8_ups, aI X.cI 8 m_ups), (aX8_downs, aI X.cI 8 m_downs), (aX8_divisors, aI X.cI 60 m_divisors), (aX8_least, aI X.cI 305061 m_least)]) [] [0, 1, 2, 3, 4] rfl rfl rfl (by decide) (by decide) (by decide) wM_X8_68 wT_X8_isRegister wZ_X8 wC_X8_isRegister 1 rfl (by decide +kernel) (by rw [hR]; exact ⟨by show 2 + 1 ≤ 4; omega, by show 8 + (1 + 11) + 100 * 2 ≤ 100 * 4; omega⟩) (by rw [hR]; exact ⟨Nat.le_refl _, Nat.le_refl _⟩) (Nat.le_of_ble_eq_true rfl) rfl dX8_divisor_1 (fun rv w1 hq => ?_)
  obtain ⟨x1, rfl, rfl, rx1, h⟩ := hq
  show Wat X 0 0 4 [(0, .ref hX8), (1, .int (i32 l1)), (2, .int (i32 l2))] [.int (i32 x1)] [(hX8, .inr (7, [.ref aX8_ups, .ref aX8_downs, .int (i32 m_many), .ref aX8_row, .int (i32 m_isSpent), .int (i32 m_found), .ref aX8_sumMany, .ref aX8_sumShares, .ref aX8_sumSet, .ref aX8_taken, .ref aX8_restUp, .ref aX8_restDown, .int (i32 m_fewest), .int (i32 m_wishes), .ref aX8_wished, .ref aX8_far, .ref aX8_queue, .int (i32 m_divided), .ref aX8_divisors, .ref aX8_least, .long (i64 m_pairOne), .long (i64 m_pairTwo), .long (i64 m_sumUp), .long (i64 m_sumDown)])), (aX8_ups, aI X.cI 8 m_ups), (aX8_downs, aI X.cI 8 m_downs), (aX8_divisors, aI X.cI 60 m_divisors), (aX8_least, aI X.cI 305061 m_least)]
  refine q_if_eq g (8) 12 rx1 (by decide) dX8_divisor_4 (fun b4 => ?_) (fun b4 => ?_)
  · replace h := h.1 b4
    refine q_lv (lv' := []) [] rfl ?_
    exact s_X8_divisor_12 g hR hX8 aX8_ups aX8_downs m_many aX8_row m_isSpent m_found aX8_sumMany aX8_sumShares aX8_sumSet aX8_taken aX8_restUp aX8_restDown m_fewest m_wishes aX8_wished aX8_far aX8_queue aX8_divisors aX8_least m_pairOne m_pairTwo m_sumUp m_sumDown m_ups m_downs r_m_ups r_m_downs Q hF m_divided m_divisors m_least r_m_divided r_m_divisors r_m_least h
  replace h := h.2 b4
  refine q_iload_n g 2 2 rfl dX8_divisor_7 ?_
  refine q_iconst g (-1) dX8_divisor_8 ?_
  refine q_icmp_ge g (5) 14 r_l2 (r32_lit _ (by decide)) (by decide) dX8_divisor_9 (fun b9 => ?_) (fun b9 => ?_)
  · replace h := h.1 b9
    refine q_aload_n g 0 0 rfl dX8_divisor_14 ?_
    refine q_iload_n g 1 1 rfl dX8_divisor_15 ?_
    refine q_callV (lev := 3) (mc := 0) (ms := 0) g 192 (c_X8_multipleOf X.l X.D X.cI X.cJ X.zt hX8 aX8_ups aX8_downs m_many aX8_row m_isSpent m_found aX8_sumMany aX8_sumShares aX8_sumSet aX8_taken aX8_restUp aX8_restDown m_fewest m_wishes aX8_wished aX8_far aX8_queue m_divided aX8_divisors aX8_least m_pairOne m_pairTwo m_sumUp m_sumDown m_ups m_downs m_divisors m_least l1 _ r_m_ups r_m_downs r_m_divided r_m_divisors r_m_least r_l1 h) (wr := []) [0, 1, 2, 3, 4] [] rfl rfl rfl (by decide) (by decide) (by decide) (ci := 7) rfl rfl rfl wM_X8_192 wI_X8_multipleOf wS_X8_multipleOf wZ_X8 wC_X8_multipleOf 1 rfl (by decide +kernel) (by rw [hR]; exact ⟨by show 3 + 1 ≤ 4; omega, by show 8 + (2 + 11) + 100 * 3 ≤ 100 * 4; omega⟩) (by rw [hR]; exact ⟨Nat.le_refl _, Nat.le_refl _⟩) (Nat.le_of_ble_eq_true rfl) rfl dX8_divisor_16 (fun rv w1 hq => ?_)
    obtain ⟨x16, m_divided_16, m_divisors_16, m_least_16, rfl, rfl, rx16, rm_divided_16, rm_divisors_16, rm_least_16, h⟩ := hq
    show Wat X 0 0 19 [(0, .ref hX8), (1, .int (i32 l1)), (2, .int (i32 l2))] [.int (i32 x16)] [(hX8, .inr (7, [.ref aX8_ups, .ref aX8_downs, .int (i32 m_many), .ref aX8_row, .int (i32 m_isSpent), .int (i32 m_found), .ref aX8_sumMany, .ref aX8_sumShares, .ref aX8_sumSet, .ref aX8_taken, .ref aX8_restUp, .ref aX8_restDown, .int (i32 m_fewest), .int (i32 m_wishes), .ref aX8_wished, .ref aX8_far, .ref aX8_queue, .int (i32 m_divided_16), .ref aX8_divisors, .ref aX8_least, .long (i64 m_pairOne), .long (i64 m_pairTwo), .long (i64 m_sumUp), .long (i64 m_sumDown)])), (aX8_ups, aI X.cI 8 m_ups), (aX8_downs, aI X.cI 8 m_downs), (aX8_divisors, aI X.cI 60 m_divisors_16), (aX8_least, aI X.cI 305061 m_least_16)]
    refine q_istore_n (lv' := [(3, .int (i32 x16)), (0, .ref hX8), (1, .int (i32 l1)), (2, .int (i32 l2))]) g 3 3 rfl (by decide) rfl dX8_divisor_19 ?_
    refine q_iload_n g 3 0 rfl dX8_divisor_20 ?_
    refine q_if_ge g (5) 26 rx16 (by decide) dX8_divisor_21 (fun b21 => ?_) (fun b21 => ?_)
    · replace h := h.1 b21
      refine q_aload_n g 0 1 rfl dX8_divisor_26 ?_
      refine q_get (C := RX8) (T := TX8) (N := 24) g 7 inX8 0 0 rfl rfl (by decide) wF_X8_7 rfl dX8_divisor_27 ?_
      refine q_iload_n g 1 2 rfl dX8_divisor_30 ?_
      obtain ⟨c31, h⟩ := h
      obtain ⟨e31, h⟩ := h
      refine q_iald g 1 rfl c31 e31 (by decide) dX8_divisor_31 ?_
      refine q_iload_n g 3 0 rfl dX8_divisor_32 ?_
      obtain ⟨c33, h⟩ := h
      refine q_imul g dX8_divisor_33 ?_
      refine q_topi c33 (fun x34 ex34 rx34 => ?_)
      replace h := h x34 ex34
      refine q_istore (lv' := [(4, .int (i32 x34)), (3, .int (i32 x16)), (0, .ref hX8), (1, .int (i32 l1)), (2, .int (i32 l2))]) g 4   (by decide) rfl dX8_divisor_34 ?_
      refine q_aload_n g 0 2 rfl dX8_divisor_36 ?_
      refine q_get (C := RX8) (T := TX8) (N := 24) g 55 inX8 0 19 rfl rfl (by decide) wF_X8_55 rfl dX8_divisor_37 ?_
      refine q_sipush g (5001) (by decide) (by decide) dX8_divisor_40 ?_
      refine q_aload_n g 0 2 rfl dX8_divisor_43 ?_
      refine q_get (C := RX8) (T := TX8) (N := 24) g 180 inX8 0 17 rfl rfl (by decide) wF_X8_180 rfl dX8_divisor_44 ?_
      obtain ⟨c47, h⟩ := h
      refine q_imul g dX8_divisor_47 ?_
      refine q_iload g 4 0 rfl dX8_divisor_48 ?_
      obtain ⟨c50, h⟩ := h
      refine q_iadd g dX8_divisor_50 ?_
      obtain ⟨c51, h⟩ := h
      obtain ⟨e51, h⟩ := h
      refine q_iald g 4 rfl c51 e51 (by decide) dX8_divisor_51 ?_
      refine q_topi (rm_least_16 _) (fun x52 ex52 rx52 => ?_)
      replace h := h x52 ex52
      refine q_istore (lv' := [(5, .int (i32 x52)), (4, .int (i32 x34)), (3, .int (i32 x16)), (0, .ref hX8), (1, .int (i32 l1)), (2, .int (i32 l2))]) g 5   (by decide) rfl dX8_divisor_52 ?_
      refine q_iload_n g 2 5 rfl dX8_divisor_54 ?_
      refine q_iconst g (-1) dX8_divisor_55 ?_
      refine q_icmp_ne g (6) 62 r_l2 (r32_lit _ (by decide)) (by decide) dX8_divisor_56 (fun b56 => ?_) (fun b56 => ?_)
      · replace h := h.1 b56
        refine q_iload_n g 2 5 rfl dX8_divisor_62 ?_
        refine q_istore (lv' := [(6, .int (i32 l2)), (5, .int (i32 x52)), (4, .int (i32 x34)), (3, .int (i32 x16)), (0, .ref hX8), (1, .int (i32 l1)), (2, .int (i32 l2))]) g 6   (by decide) rfl dX8_divisor_63 ?_
        refine q_aload_n g 0 4 rfl dX8_divisor_65 ?_
        refine q_get (C := RX8) (T := TX8) (N := 24) g 180 inX8 0 17 rfl rfl (by decide) wF_X8_180 rfl dX8_divisor_66 ?_
        refine q_istore (lv' := [(7, .int (i32 m_divided_16)), (6, .int (i32 l2)), (5, .int (i32 x52)), (4, .int (i32 x34)), (3, .int (i32 x16)), (0, .ref hX8), (1, .int (i32 l1)), (2, .int (i32 l2))]) g 7   (by decide) rfl dX8_divisor_69 ?_
        refine q_lv (lv' := [(0, .ref hX8), (4, .int (i32 x34)), (6, .int (i32 l2)), (7, .int (i32 m_divided_16))]) [5, 3, 1, 0] rfl ?_
        obtain ⟨n0, h⟩ := h
        exact s_X8_divisor_71 g hR hX8 aX8_ups aX8_downs m_many aX8_row m_isSpent m_found aX8_sumMany aX8_sumShares aX8_sumSet aX8_taken aX8_restUp aX8_restDown m_fewest m_wishes aX8_wished aX8_far aX8_queue aX8_divisors aX8_least m_pairOne m_pairTwo m_sumUp m_sumDown m_ups m_downs r_m_ups r_m_downs Q hF n0 m_divided_16 m_divisors_16 m_least_16 x34 l2 m_divided_16 rm_divided_16 rm_divisors_16 rm_least_16 rx34 r_l2 rm_divided_16 h
      replace h := h.2 b56
      refine q_iload g 5 0 rfl dX8_divisor_59 ?_
      exact q_iret g hF ⟨x52, m_divided_16, m_divisors_16, m_least_16, rfl, rfl, rx52, rm_divided_16, rm_divisors_16, rm_least_16, h⟩ dX8_divisor_61
    replace h := h.2 b21
    refine q_iload_n g 3 0 rfl dX8_divisor_24 ?_
    exact q_iret g hF ⟨x16, m_divided_16, m_divisors_16, m_least_16, rfl, rfl, rx16, rm_divided_16, rm_divisors_16, rm_least_16, h⟩ dX8_divisor_25
  replace h := h.2 b9
  refine q_lv (lv' := []) [] rfl ?_
  exact s_X8_divisor_12 g hR hX8 aX8_ups aX8_downs m_many aX8_row m_isSpent m_found aX8_sumMany aX8_sumShares aX8_sumSet aX8_taken aX8_restUp aX8_restDown m_fewest m_wishes aX8_wished aX8_far aX8_queue aX8_divisors aX8_least m_pairOne m_pairTwo m_sumUp m_sumDown m_ups m_downs r_m_ups r_m_downs Q hF m_divided m_divisors m_least r_m_divided r_m_divisors r_m_least h
theorem dX8_factors_0 : decode cX8_factors 0 = .ok (.lload_n 1, 1) := by decide +kernel
theorem dX8_factors_1 : decode cX8_factors 1 = .ok (.lstore 5, 2) := by decide +kernel
theorem dX8_factors_3 : decode cX8_factors 3 = .ok (.lconst 1, 1) := by decide +kernel
theorem dX8_factors_4 : decode cX8_factors 4 = .ok (.lstore 7, 2) := by decide +kernel
theorem dX8_factors_6 : decode cX8_factors 6 = .ok (.lload 5, 2) := by decide +kernel
theorem dX8_factors_8 : decode cX8_factors 8 = .ok (.lconst 0, 1) := by decide +kernel
theorem dX8_factors_9 : decode cX8_factors 9 = .ok (.lcmp, 1) := by decide +kernel
theorem dX8_factors_10 : decode cX8_factors 10 = .ok (.ifCond .le 74, 3) := by decide +kernel
theorem dX8_factors_13 : decode cX8_factors 13 = .ok (.aload_n 0, 1) := by decide +kernel
theorem dX8_factors_14 : decode cX8_factors 14 = .ok (.getfield 80, 3) := by decide +kernel
theorem dX8_factors_17 : decode cX8_factors 17 = .ok (.ifCond .ne 67, 3) := by decide +kernel
theorem dX8_factors_20 : decode cX8_factors 20 = .ok (.lload_n 3, 1) := by decide +kernel
theorem dX8_factors_21 : decode cX8_factors 21 = .ok (.lload 5, 2) := by decide +kernel
theorem dX8_factors_23 : decode cX8_factors 23 = .ok (.ladd, 1) := by decide +kernel
theorem dX8_factors_24 : decode cX8_factors 24 = .ok (.lconst 1, 1) := by decide +kernel
theorem dX8_factors_25 : decode cX8_factors 25 = .ok (.lsub, 1) := by decide +kernel
theorem dX8_factors_26 : decode cX8_factors 26 = .ok (.lload 5, 2) := by decide +kernel
theorem dX8_factors_28 : decode cX8_factors 28 = .ok (.ldiv, 1) := by decide +kernel
theorem dX8_factors_29 : decode cX8_factors 29 = .ok (.lstore 9, 2) := by decide +kernel
theorem dX8_factors_31 : decode cX8_factors 31 = .ok (.aload_n 0, 1) := by decide +kernel
theorem dX8_factors_32 : decode cX8_factors 32 = .ok (.lload 7, 2) := by decide +kernel
theorem dX8_factors_34 : decode cX8_factors 34 = .ok (.ldc2_w 87, 3) := by decide +kernel
theorem dX8_factors_37 : decode cX8_factors 37 = .ok (.lload 9, 2) := by decide +kernel
theorem dX8_factors_39 : decode cX8_factors 39 = .ok (.ldiv, 1) := by decide +kernel
theorem dX8_factors_40 : decode cX8_factors 40 = .ok (.lcmp, 1) := by decide +kernel
theorem dX8_factors_41 : decode cX8_factors 41 = .ok (.ifCond .le 7, 3) := by decide +kernel
theorem dX8_factors_44 : decode cX8_factors 44 = .ok (.iconst 1, 1) := by decide +kernel
theorem dX8_factors_45 : decode cX8_factors 45 = .ok (.goto 4, 3) := by decide +kernel
theorem dX8_factors_48 : decode cX8_factors 48 = .ok (.iconst 0, 1) := by decide +kernel
theorem dX8_factors_49 : decode cX8_factors 49 = .ok (.putfield 80, 3) := by decide +kernel
theorem dX8_factors_52 : decode cX8_factors 52 = .ok (.aload_n 0, 1) := by decide +kernel
theorem dX8_factors_53 : decode cX8_factors 53 = .ok (.getfield 80, 3) := by decide +kernel
theorem dX8_factors_56 : decode cX8_factors 56 = .ok (.ifCond .ne 25, 3) := by decide +kernel
theorem dX8_factors_59 : decode cX8_factors 59 = .ok (.lload 7, 2) := by decide +kernel
theorem dX8_factors_61 : decode cX8_factors 61 = .ok (.lload 9, 2) := by decide +kernel
theorem dX8_factors_63 : decode cX8_factors 63 = .ok (.lmul, 1) := by decide +kernel
theorem dX8_factors_64 : decode cX8_factors 64 = .ok (.lstore 7, 2) := by decide +kernel
theorem dX8_factors_66 : decode cX8_factors 66 = .ok (.aload_n 0, 1) := by decide +kernel
theorem dX8_factors_67 : decode cX8_factors 67 = .ok (.lload 7, 2) := by decide +kernel
theorem dX8_factors_69 : decode cX8_factors 69 = .ok (.invokevirtual 95, 3) := by decide +kernel
theorem dX8_factors_72 : decode cX8_factors 72 = .ok (.lload 9, 2) := by decide +kernel
theorem dX8_factors_74 : decode cX8_factors 74 = .ok (.lload 5, 2) := by decide +kernel
theorem dX8_factors_76 : decode cX8_factors 76 = .ok (.lmul, 1) := by decide +kernel
theorem dX8_factors_77 : decode cX8_factors 77 = .ok (.lload_n 3, 1) := by decide +kernel
theorem dX8_factors_78 : decode cX8_factors 78 = .ok (.lsub, 1) := by decide +kernel
theorem dX8_factors_79 : decode cX8_factors 79 = .ok (.lstore 5, 2) := by decide +kernel
theorem dX8_factors_81 : decode cX8_factors 81 = .ok (.goto (-75), 3) := by decide +kernel
theorem dX8_factors_84 : decode cX8_factors 84 = .ok (.return_, 1) := by decide +kernel
abbrev po_X8_factors (cI cJ : ClassId) (hX8 : Nat) (aX8_ups : Nat) (aX8_downs : Nat) (aX8_row : Nat) (m_found : Int) (aX8_sumMany : Nat) (aX8_sumShares : Nat) (aX8_sumSet : Nat) (aX8_taken : Nat) (aX8_restUp : Nat) (aX8_restDown : Nat) (m_fewest : Int) (m_wishes : Int) (aX8_wished : Nat) (aX8_far : Nat) (aX8_queue : Nat) (m_divided : Int) (aX8_divisors : Nat) (aX8_least : Nat) (m_pairOne : Int) (m_pairTwo : Int) (m_sumUp : Int) (m_sumDown : Int) (Q : Int → (Int → Int) → Int → Prop) : Option Value → va_W → Prop := fun rv w1 => ∃ (m_many : Int) (m_row : Int → Int) (m_isSpent : Int), rv = none ∧ w1 = [(hX8, .inr (7, [.ref aX8_ups, .ref aX8_downs, .int (i32 m_many), .ref aX8_row, .int (i32 m_isSpent), .int (i32 m_found), .ref aX8_sumMany, .ref aX8_sumShares, .ref aX8_sumSet, .ref aX8_taken, .ref aX8_restUp, .ref aX8_restDown, .int (i32 m_fewest), .int (i32 m_wishes), .ref aX8_wished, .ref aX8_far, .ref aX8_queue, .int (i32 m_divided), .ref aX8_divisors, .ref aX8_least, .long (i64 m_pairOne), .long (i64 m_pairTwo), .long (i64 m_sumUp), .long (i64 m_sumDown)])), (aX8_row, aL cJ 17 m_row)] ∧ r32 m_many ∧ rr64 m_row ∧ r32 m_isSpent ∧ Q m_many m_row m_isSpent
def wp_X8_factors_81 (Q : Int → (Int → Int) → Int → Prop) (K_6 : Int → (Int → Int) → Int → Int → Int → Int → Prop) (m_many : Int) (m_row : Int → Int) (m_isSpent : Int) (l3 : Int) (l5 : Int) (l7 : Int) : Prop := K_6 m_many m_row m_isSpent l3 l5 l7
set_option maxHeartbeats 4000000 in
set_option maxRecDepth 100000 in
theorem s_X8_factors_81 {X : Cx} (g : Gd X cX8_factors RX8 none 11) (hR : X.R = rmL 2 0 0) (hX8 : Nat) (aX8_ups : Nat) (aX8_downs : Nat) (aX8_row : Nat) (m_found : Int) (aX8_sumMany : Nat) (aX8_sumShares : Nat) (aX8_sumSet : Nat) (aX8_taken : Nat) (aX8_restUp : Nat) (aX8_restDown : Nat) (m_fewest : Int) (m_wishes : Int) (aX8_wished : Nat) (aX8_far : Nat) (aX8_queue : Nat) (m_divided : Int) (aX8_divisors : Nat) (aX8_least : Nat) (m_pairOne : Int) (m_pairTwo : Int) (m_sumUp : Int) (m_sumDown : Int) (Q : Int → (Int → Int) → Int → Prop) (hF : FQ X 0 0 (po_X8_factors X.cI X.cJ hX8 aX8_ups aX8_downs aX8_row m_found aX8_sumMany aX8_sumShares aX8_sumSet aX8_taken aX8_restUp aX8_restDown m_fewest m_wishes aX8_wished aX8_far aX8_queue m_divided aX8_divisors aX8_least m_pairOne m_pairTwo m_sumUp m_sumDown Q)) (K_6 : Int → (Int → Int) → Int → Int → Int → Int → Prop) (hK_6 : ∀ (m_many : Int) (m_row : Int → Int) (m_isSpent : Int) (l3 : Int) (l5 : Int) (l7 : Int), r32 m_many → rr64 m_row → r32 m_isSpent → r64 l3 → r64 l5 → r64 l7 → K_6 m_many m_row m_isSpent l3 l5 l7 → Wat X 0 0 6 [(0, .ref hX8), (3, .long (i64 l3)), (5, .long (i64 l5)), (7, .long (i64 l7))] [] [(hX8, .inr (7, [.ref aX8_ups, .ref aX8_downs, .int (i32 m_many), .ref aX8_row, .int (i32 m_isSpent), .int (i32 m_found), .ref aX8_sumMany, .ref aX8_sumShares, .ref aX8_sumSet, .ref aX8_taken, .ref aX8_restUp, .ref aX8_restDown, .int (i32 m_fewest), .int (i32 m_wishes), .ref aX8_wished, .ref aX8_far, .ref aX8_queue, .int (i32 m_divided), .ref aX8_divisors, .ref aX8_least, .long (i64 m_pairOne), .long (i64 m_pairTwo), .long (i64 m_sumUp), .long (i64 m_sumDown)])), (aX8_row, aL X.cJ 17 m_row)]) : ∀ (m_many : Int) (m_row : Int → Int) (m_isSpent : Int) (l3 : Int) (l5 : Int) (l7 : Int), r32 m_many → rr64 m_row → r32 m_isSpent → r64 l3 → r64 l5 → r64 l7 → wp_X8_factors_81 Q K_6 m_many m_row m_isSpent l3 l5 l7 → Wat X 0 0 81 [(0, .ref hX8), (3, .long (i64 l3)), (5, .long (i64 l5)), (7, .long (i64 l7))] [] [(hX8, .inr (7, [.ref aX8_ups, .ref aX8_downs, .int (i32 m_many), .ref aX8_row, .int (i32 m_isSpent), .int (i32 m_found), .ref aX8_sumMany, .ref aX8_sumShares, .ref aX8_sumSet, .ref aX8_taken, .ref aX8_restUp, .ref aX8_restDown, .int (i32 m_fewest), .int (i32 m_wishes), .ref aX8_wished, .ref aX8_far, .ref aX8_queue, .int (i32 m_divided), .ref aX8_divisors, .ref aX8_least, .long (i64 m_pairOne), .long (i64 m_pairTwo), .long (i64 m_sumUp), .long (i64 m_sumDown)])), (aX8_row, aL X.cJ 17 m_row)] := by
  intro m_many m_row m_isSpent l3 l5 l7 r_m_many r_m_row r_m_isSpent r_l3 r_l5 r_l7 h
  rw [wp_X8_factors_81] at h
  refine q_goto g (-75) 6 (by decide) dX8_factors_81 ?_
  exact hK_6 m_many m_row m_isSpent l3 l5 l7 r_m_many r_m_row r_m_isSpent r_l3 r_l5 r_l7 h
def wp_X8_factors_49 (Q : Int → (Int → Int) → Int → Prop) (K_6 : Int → (Int → Int) → Int → Int → Int → Int → Prop) (m_many : Int) (m_row : Int → Int) (m_isSpent : Int) (l3 : Int) (l5 : Int) (l7 : Int) (l9 : Int) (k1 : Int) : Prop := ((k1 = 0 ∨ k1 = 1) ∧ ((¬ k1 = 0 → wp_X8_factors_81 Q K_6 m_many m_row k1 l3 l5 l7) ∧
  (k1 = 0 → (r64 (l7 * l9) ∧ ∀ x64 : Int, x64 = (l7 * l9) → wp_X8_put (fun (m_many_69 : Int) (m_row_69 : Int → Int) (m_isSpent_69 : Int) => (r64 (l9 * l5) ∧ r64 ((l9 * l5) - l3) ∧ ∀ x79 : Int, x79 = ((l9 * l5) - l3) → wp_X8_factors_81 Q K_6 m_many_69 m_row_69 m_isSpent_69 l3 x79 x64)) m_many m_row k1 x64))))
set_option maxHeartbeats 4000000 in
set_option maxRecDepth 100000 in
theorem s_X8_factors_49 {X : Cx} (g : Gd X cX8_factors RX8 none 11) (hR : X.R = rmL 2 0 0) (hX8 : Nat) (aX8_ups : Nat) (aX8_downs : Nat) (aX8_row : Nat) (m_found : Int) (aX8_sumMany : Nat) (aX8_sumShares : Nat) (aX8_sumSet : Nat) (aX8_taken : Nat) (aX8_restUp : Nat) (aX8_restDown : Nat) (m_fewest : Int) (m_wishes : Int) (aX8_wished : Nat) (aX8_far : Nat) (aX8_queue : Nat) (m_divided : Int) (aX8_divisors : Nat) (aX8_least : Nat) (m_pairOne : Int) (m_pairTwo : Int) (m_sumUp : Int) (m_sumDown : Int) (Q : Int → (Int → Int) → Int → Prop) (hF : FQ X 0 0 (po_X8_factors X.cI X.cJ hX8 aX8_ups aX8_downs aX8_row m_found aX8_sumMany aX8_sumShares aX8_sumSet aX8_taken aX8_restUp aX8_restDown m_fewest m_wishes aX8_wished aX8_far aX8_queue m_divided aX8_divisors aX8_least m_pairOne m_pairTwo m_sumUp m_sumDown Q)) (K_6 : Int → (Int → Int) → Int → Int → Int → Int → Prop) (hK_6 : ∀ (m_many : Int) (m_row : Int → Int) (m_isSpent : Int) (l3 : Int) (l5 : Int) (l7 : Int), r32 m_many → rr64 m_row → r32 m_isSpent → r64 l3 → r64 l5 → r64 l7 → K_6 m_many m_row m_isSpent l3 l5 l7 → Wat X 0 0 6 [(0, .ref hX8), (3, .long (i64 l3)), (5, .long (i64 l5)), (7, .long (i64 l7))] [] [(hX8, .inr (7, [.ref aX8_ups, .ref aX8_downs, .int (i32 m_many), .ref aX8_row, .int (i32 m_isSpent), .int (i32 m_found), .ref aX8_sumMany, .ref aX8_sumShares, .ref aX8_sumSet, .ref aX8_taken, .ref aX8_restUp, .ref aX8_restDown, .int (i32 m_fewest), .int (i32 m_wishes), .ref aX8_wished, .ref aX8_far, .ref aX8_queue, .int (i32 m_divided), .ref aX8_divisors, .ref aX8_least, .long (i64 m_pairOne), .long (i64 m_pairTwo), .long (i64 m_sumUp), .long (i64 m_sumDown)])), (aX8_row, aL X.cJ 17 m_row)]) : ∀ (m_many : Int) (m_row : Int → Int) (m_isSpent : Int) (l3 : Int) (l5 : Int) (l7 : Int) (l9 : Int) (k1 : Int), r32 m_many → rr64 m_row → r32 m_isSpent → r64 l3 → r64 l5 → r64 l7 → r64 l9 → r32 k1 → wp_X8_factors_49 Q K_6 m_many m_row m_isSpent l3 l5 l7 l9 k1 → Wat X 0 0 49 [(0, .ref hX8), (3, .long (i64 l3)), (5, .long (i64 l5)), (7, .long (i64 l7)), (9, .long (i64 l9))] [.int (i32 k1), .ref hX8] [(hX8, .inr (7, [.ref aX8_ups, .ref aX8_downs, .int (i32 m_many), .ref aX8_row, .int (i32 m_isSpent), .int (i32 m_found), .ref aX8_sumMany, .ref aX8_sumShares, .ref aX8_sumSet, .ref aX8_taken, .ref aX8_restUp, .ref aX8_restDown, .int (i32 m_fewest), .int (i32 m_wishes), .ref aX8_wished, .ref aX8_far, .ref aX8_queue, .int (i32 m_divided), .ref aX8_divisors, .ref aX8_least, .long (i64 m_pairOne), .long (i64 m_pairTwo), .long (i64 m_sumUp), .long (i64 m_sumDown)])), (aX8_row, aL X.cJ 17 m_row)] := by
  intro m_many m_row m_isSpent l3 l5 l7 l9 k1 r_m_many r_m_row r_m_isSpent r_l3 r_l5 r_l7 r_l9 r_k1 h
  rw [wp_X8_factors_49] at h
  obtain ⟨z49, h⟩ := h
  refine q_put (C := RX8) (T := TX8) (N := 24) (ty := .boolean) (ws' := [(hX8, .inr (7, [.ref aX8_ups, .ref aX8_downs, .int (i32 m_many), .ref aX8_row, .int (i32 k1), .int (i32 m_found), .ref aX8_sumMany, .ref aX8_sumShares, .ref aX8_sumSet, .ref aX8_taken, .ref aX8_restUp, .ref aX8_restDown, .int (i32 m_fewest), .int (i32 m_wishes), .ref aX8_wished, .ref aX8_far, .ref aX8_queue, .int (i32 m_divided), .ref aX8_divisors, .ref aX8_least, .long (i64 m_pairOne), .long (i64 m_pairTwo), .long (i64 m_sumUp), .long (i64 m_sumDown)])), (aX8_row, aL X.cJ 17 m_row)]) g 80 inX8 tyX8_ok nmX8 0 4 rfl rfl (by decide) wF_X8_80 rfl rfl (zb_n z49) (zb_f z49) (Nat.le_of_ble_eq_true rfl) rfl dX8_factors_49 ?_
  refine q_aload_n g 0 0 rfl dX8_factors_52 ?_
  refine q_get (C := RX8) (T := TX8) (N := 24) g 80 inX8 0 4 rfl rfl (by decide) wF_X8_80 rfl dX8_factors_53 ?_
  refine q_if_ne g (25) 81 r_k1 (by decide) dX8_factors_56 (fun b56 => ?_) (fun b56 => ?_)
  · replace h := h.1 b56
    refine q_lv (lv' := [(0, .ref hX8), (3, .long (i64 l3)), (5, .long (i64 l5)), (7, .long (i64 l7))]) [0, 1, 2, 3] rfl ?_
    exact s_X8_factors_81 g hR hX8 aX8_ups aX8_downs aX8_row m_found aX8_sumMany aX8_sumShares aX8_sumSet aX8_taken aX8_restUp aX8_restDown m_fewest m_wishes aX8_wished aX8_far aX8_queue m_divided aX8_divisors aX8_least m_pairOne m_pairTwo m_sumUp m_sumDown Q hF K_6 hK_6 m_many m_row k1 l3 l5 l7 r_m_many r_m_row r_k1 r_l3 r_l5 r_l7 h
  replace h := h.2 b56
  refine q_lload g 7 3 rfl dX8_factors_59 ?_
  refine q_lload g 9 4 rfl dX8_factors_61 ?_
  obtain ⟨c63, h⟩ := h
  refine q_lmul g dX8_factors_63 ?_
  refine q_topl c63 (fun x64 ex64 rx64 => ?_)
  replace h := h x64 ex64
  refine q_lstore (lv' := [(7, .long (i64 x64)), (0, .ref hX8), (3, .long (i64 l3)), (5, .long (i64 l5)), (9, .long (i64 l9))]) g 7   (by decide) rfl dX8_factors_64 ?_
  refine q_aload_n g 0 1 rfl dX8_factors_66 ?_
  refine q_lload g 7 0 rfl dX8_factors_67 ?_
  refine q_callV (lev := 1) (mc := 0) (ms := 0) g 95 (c_X8_put X.l X.D X.cI X.cJ X.zt hX8 aX8_ups aX8_downs m_many aX8_row k1 m_found aX8_sumMany aX8_sumShares aX8_sumSet aX8_taken aX8_restUp aX8_restDown m_fewest m_wishes aX8_wished aX8_far aX8_queue m_divided aX8_divisors aX8_least m_pairOne m_pairTwo m_sumUp m_sumDown m_row x64 _ r_m_many r_m_row r_k1 rx64 h) (wr := []) [0, 1] [] rfl rfl rfl (by decide) (by decide) (by decide) (ci := 7) rfl rfl rfl wM_X8_95 wI_X8_put wS_X8_put wZ_X8 wC_X8_put 1 rfl (by decide +kernel) (by rw [hR]; exact ⟨by show 1 + 1 ≤ 2; omega, by show 8 + (3 + 11) + 100 * 1 ≤ 100 * 2; omega⟩) (by rw [hR]; exact ⟨Nat.le_refl _, Nat.le_refl _⟩) (Nat.le_of_ble_eq_true rfl) rfl dX8_factors_69 (fun rv w1 hq => ?_)
  obtain ⟨m_many_69, m_row_69, m_isSpent_69, rfl, rfl, rm_many_69, rm_row_69, rm_isSpent_69, h⟩ := hq
  show Wat X 0 0 72 [(7, .long (i64 x64)), (0, .ref hX8), (3, .long (i64 l3)), (5, .long (i64 l5)), (9, .long (i64 l9))] [] [(hX8, .inr (7, [.ref aX8_ups, .ref aX8_downs, .int (i32 m_many_69), .ref aX8_row, .int (i32 m_isSpent_69), .int (i32 m_found), .ref aX8_sumMany, .ref aX8_sumShares, .ref aX8_sumSet, .ref aX8_taken, .ref aX8_restUp, .ref aX8_restDown, .int (i32 m_fewest), .int (i32 m_wishes), .ref aX8_wished, .ref aX8_far, .ref aX8_queue, .int (i32 m_divided), .ref aX8_divisors, .ref aX8_least, .long (i64 m_pairOne), .long (i64 m_pairTwo), .long (i64 m_sumUp), .long (i64 m_sumDown)])), (aX8_row, aL X.cJ 17 m_row_69)]
  refine q_lload g 9 4 rfl dX8_factors_72 ?_
  refine q_lload g 5 3 rfl dX8_factors_74 ?_
  obtain ⟨c76, h⟩ := h
  refine q_lmul g dX8_factors_76 ?_
  refine q_lload_n g 3 2 rfl dX8_factors_77 ?_
  obtain ⟨c78, h⟩ := h
  refine q_lsub g dX8_factors_78 ?_
  refine q_topl c78 (fun x79 ex79 rx79 => ?_)
  replace h := h x79 ex79
  refine q_lstore (lv' := [(5, .long (i64 x79)), (7, .long (i64 x64)), (0, .ref hX8), (3, .long (i64 l3)), (9, .long (i64 l9))]) g 5   (by decide) rfl dX8_factors_79 ?_
  refine q_lv (lv' := [(0, .ref hX8), (3, .long (i64 l3)), (5, .long (i64 x79)), (7, .long (i64 x64))]) [2, 3, 0, 1] rfl ?_
  exact s_X8_factors_81 g hR hX8 aX8_ups aX8_downs aX8_row m_found aX8_sumMany aX8_sumShares aX8_sumSet aX8_taken aX8_restUp aX8_restDown m_fewest m_wishes aX8_wished aX8_far aX8_queue m_divided aX8_divisors aX8_least m_pairOne m_pairTwo m_sumUp m_sumDown Q hF K_6 hK_6 m_many_69 m_row_69 m_isSpent_69 l3 x79 x64 rm_many_69 rm_row_69 rm_isSpent_69 r_l3 rx79 rx64 h
def wp_X8_factors_84 (Q : Int → (Int → Int) → Int → Prop) (m_many : Int) (m_row : Int → Int) (m_isSpent : Int) : Prop := Q m_many m_row m_isSpent
set_option maxHeartbeats 4000000 in
set_option maxRecDepth 100000 in
theorem s_X8_factors_84 {X : Cx} (g : Gd X cX8_factors RX8 none 11) (hR : X.R = rmL 2 0 0) (hX8 : Nat) (aX8_ups : Nat) (aX8_downs : Nat) (aX8_row : Nat) (m_found : Int) (aX8_sumMany : Nat) (aX8_sumShares : Nat) (aX8_sumSet : Nat) (aX8_taken : Nat) (aX8_restUp : Nat) (aX8_restDown : Nat) (m_fewest : Int) (m_wishes : Int) (aX8_wished : Nat) (aX8_far : Nat) (aX8_queue : Nat) (m_divided : Int) (aX8_divisors : Nat) (aX8_least : Nat) (m_pairOne : Int) (m_pairTwo : Int) (m_sumUp : Int) (m_sumDown : Int) (Q : Int → (Int → Int) → Int → Prop) (hF : FQ X 0 0 (po_X8_factors X.cI X.cJ hX8 aX8_ups aX8_downs aX8_row m_found aX8_sumMany aX8_sumShares aX8_sumSet aX8_taken aX8_restUp aX8_restDown m_fewest m_wishes aX8_wished aX8_far aX8_queue m_divided aX8_divisors aX8_least m_pairOne m_pairTwo m_sumUp m_sumDown Q)) : ∀ (m_many : Int) (m_row : Int → Int) (m_isSpent : Int), r32 m_many → rr64 m_row → r32 m_isSpent → wp_X8_factors_84 Q m_many m_row m_isSpent → Wat X 0 0 84 [] [] [(hX8, .inr (7, [.ref aX8_ups, .ref aX8_downs, .int (i32 m_many), .ref aX8_row, .int (i32 m_isSpent), .int (i32 m_found), .ref aX8_sumMany, .ref aX8_sumShares, .ref aX8_sumSet, .ref aX8_taken, .ref aX8_restUp, .ref aX8_restDown, .int (i32 m_fewest), .int (i32 m_wishes), .ref aX8_wished, .ref aX8_far, .ref aX8_queue, .int (i32 m_divided), .ref aX8_divisors, .ref aX8_least, .long (i64 m_pairOne), .long (i64 m_pairTwo), .long (i64 m_sumUp), .long (i64 m_sumDown)])), (aX8_row, aL X.cJ 17 m_row)] := by
  intro m_many m_row m_isSpent r_m_many r_m_row r_m_isSpent h
  rw [wp_X8_factors_84] at h
  exact q_vret g hF ⟨m_many, m_row, m_isSpent, rfl, rfl, r_m_many, r_m_row, r_m_isSpent, h⟩ dX8_factors_84
def wp_X8_factors_6 (Q : Int → (Int → Int) → Int → Prop) : Nat → Int → (Int → Int) → Int → Int → Int → Int → Prop
  | 0, _, _, _, _, _, _ => False
  | n + 1, m_many, m_row, m_isSpent, l3, l5, l7 => ((l5 ≤ 0 → wp_X8_factors_84 Q m_many m_row m_isSpent) ∧
  (¬ (l5 ≤ 0) → ((¬ m_isSpent = 0 → wp_X8_factors_84 Q m_many m_row m_isSpent) ∧
  (m_isSpent = 0 → (r64 (l3 + l5) ∧ r64 ((l3 + l5) - 1) ∧ 0 < l5 ∧ ∀ x29 : Int, x29 = (Int.tdiv ((l3 + l5) - 1) l5) → 0 < x29 ∧ ((l7 ≤ (Int.tdiv 1000000000000 x29) → wp_X8_factors_49 Q (wp_X8_factors_6 Q n) m_many m_row m_isSpent l3 l5 l7 x29 0) ∧
  (¬ (l7 ≤ (Int.tdiv 1000000000000 x29)) → wp_X8_factors_49 Q (wp_X8_factors_6 Q n) m_many m_row m_isSpent l3 l5 l7 x29 1)))))))
set_option maxHeartbeats 4000000 in
set_option maxRecDepth 100000 in
theorem s_X8_factors_6 {X : Cx} (g : Gd X cX8_factors RX8 none 11) (hR : X.R = rmL 2 0 0) (hX8 : Nat) (aX8_ups : Nat) (aX8_downs : Nat) (aX8_row : Nat) (m_found : Int) (aX8_sumMany : Nat) (aX8_sumShares : Nat) (aX8_sumSet : Nat) (aX8_taken : Nat) (aX8_restUp : Nat) (aX8_restDown : Nat) (m_fewest : Int) (m_wishes : Int) (aX8_wished : Nat) (aX8_far : Nat) (aX8_queue : Nat) (m_divided : Int) (aX8_divisors : Nat) (aX8_least : Nat) (m_pairOne : Int) (m_pairTwo : Int) (m_sumUp : Int) (m_sumDown : Int) (Q : Int → (Int → Int) → Int → Prop) (hF : FQ X 0 0 (po_X8_factors X.cI X.cJ hX8 aX8_ups aX8_downs aX8_row m_found aX8_sumMany aX8_sumShares aX8_sumSet aX8_taken aX8_restUp aX8_restDown m_fewest m_wishes aX8_wished aX8_far aX8_queue m_divided aX8_divisors aX8_least m_pairOne m_pairTwo m_sumUp m_sumDown Q)) : ∀ (n : Nat) (m_many : Int) (m_row : Int → Int) (m_isSpent : Int) (l3 : Int) (l5 : Int) (l7 : Int), r32 m_many → rr64 m_row → r32 m_isSpent → r64 l3 → r64 l5 → r64 l7 → wp_X8_factors_6 Q n m_many m_row m_isSpent l3 l5 l7 → Wat X 0 0 6 [(0, .ref hX8), (3, .long (i64 l3)), (5, .long (i64 l5)), (7, .long (i64 l7))] [] [(hX8, .inr (7, [.ref aX8_ups, .ref aX8_downs, .int (i32 m_many), .ref aX8_row, .int (i32 m_isSpent), .int (i32 m_found), .ref aX8_sumMany, .ref aX8_sumShares, .ref aX8_sumSet, .ref aX8_taken, .ref aX8_restUp, .ref aX8_restDown, .int (i32 m_fewest), .int (i32 m_wishes), .ref aX8_wished, .ref aX8_far, .ref aX8_queue, .int (i32 m_divided), .ref aX8_divisors, .ref aX8_least, .long (i64 m_pairOne), .long (i64 m_pairTwo), .long (i64 m_sumUp), .long (i64 m_sumDown)])), (aX8_row, aL X.cJ 17 m_row)] := by
  intro n
  induction n with
  | zero => intro m_many m_row m_isSpent l3 l5 l7 r_m_many r_m_row r_m_isSpent r_l3 r_l5 r_l7 h; exact False.elim h
  | succ n ih =>
    intro m_many m_row m_isSpent l3 l5 l7 r_m_many r_m_row r_m_isSpent r_l3 r_l5 r_l7 h
    rw [wp_X8_factors_6] at h
    refine q_lload g 5 2 rfl dX8_factors_6 ?_
    refine q_lconst g 0 0 rfl dX8_factors_8 ?_
    refine q_lcmp_le g (74) 84 r_l5 (r64_lit _ (by decide)) (by decide) dX8_factors_9 dX8_factors_10 (fun b9 => ?_) (fun b9 => ?_)
    · replace h := h.1 b9
      refine q_lv (lv' := []) [] rfl ?_
      exact s_X8_factors_84 g hR hX8 aX8_ups aX8_downs aX8_row m_found aX8_sumMany aX8_sumShares aX8_sumSet aX8_taken aX8_restUp aX8_restDown m_fewest m_wishes aX8_wished aX8_far aX8_queue m_divided aX8_divisors aX8_least m_pairOne m_pairTwo m_sumUp m_sumDown Q hF m_many m_row m_isSpent r_m_many r_m_row r_m_isSpent h
    replace h := h.2 b9
    refine q_aload_n g 0 0 rfl dX8_factors_13 ?_
    refine q_get (C := RX8) (T := TX8) (N := 24) g 80 inX8 0 4 rfl rfl (by decide) wF_X8_80 rfl dX8_factors_14 ?_
    refine q_if_ne g (67) 84 r_m_isSpent (by decide) dX8_factors_17 (fun b17 => ?_) (fun b17 => ?_)
    · replace h := h.1 b17
      refine q_lv (lv' := []) [] rfl ?_
      exact s_X8_factors_84 g hR hX8 aX8_ups aX8_downs aX8_row m_found aX8_sumMany aX8_sumShares aX8_sumSet aX8_taken aX8_restUp aX8_restDown m_fewest m_wishes aX8_wished aX8_far aX8_queue m_divided aX8_divisors aX8_least m_pairOne m_pairTwo m_sumUp m_sumDown Q hF m_many m_row m_isSpent r_m_many r_m_row r_m_isSpent h
    replace h := h.2 b17
    refine q_lload_n g 3 1 rfl dX8_factors_20 ?_
    refine q_lload g 5 2 rfl dX8_factors_21 ?_
    obtain ⟨c23, h⟩ := h
    refine q_ladd g dX8_factors_23 ?_
    refine q_lconst g 1 1 rfl dX8_factors_24 ?_
    obtain ⟨c25, h⟩ := h
    refine q_lsub g dX8_factors_25 ?_
    refine q_lload g 5 2 rfl dX8_factors_26 ?_
    obtain ⟨c28, h⟩ := h
    refine q_ldiv g c25 r_l5 (ne_of_pos c28) dX8_factors_28 ?_
    refine q_topl (r64_tdiv c25 c28) (fun x29 ex29 rx29 => ?_)
    replace h := h x29 ex29
    refine q_lstore (lv' := [(9, .long (i64 x29)), (0, .ref hX8), (3, .long (i64 l3)), (5, .long (i64 l5)), (7, .long (i64 l7))]) g 9   (by decide) rfl dX8_factors_29 ?_
    refine q_aload_n g 0 1 rfl dX8_factors_31 ?_
    refine q_lload g 7 4 rfl dX8_factors_32 ?_
    refine q_ldc2 (w := 1000000000000) g 87 (1000000000000) (by decide +kernel) wL_X8_87 dX8_factors_34 ?_
    refine q_lload g 9 0 rfl dX8_factors_37 ?_
    obtain ⟨c39, h⟩ := h
    refine q_ldiv g (r64_lit _ (by decide)) rx29 (ne_of_pos c39) dX8_factors_39 ?_
    refine q_lcmp_le g (7) 48 r_l7 (r64_tdiv (r64_lit _ (by decide)) c39) (by decide) dX8_factors_40 dX8_factors_41 (fun b40 => ?_) (fun b40 => ?_)
    · replace h := h.1 b40
      refine q_iconst g (0) dX8_factors_48 ?_
      refine q_lv (lv' := [(0, .ref hX8), (3, .long (i64 l3)), (5, .long (i64 l5)), (7, .long (i64 l7)), (9, .long (i64 x29))]) [1, 2, 3, 4, 0] rfl ?_
      exact s_X8_factors_49 g hR hX8 aX8_ups aX8_downs aX8_row m_found aX8_sumMany aX8_sumShares aX8_sumSet aX8_taken aX8_restUp aX8_restDown m_fewest m_wishes aX8_wished aX8_far aX8_queue m_divided aX8_divisors aX8_least m_pairOne m_pairTwo m_sumUp m_sumDown Q hF (wp_X8_factors_6 Q n) (fun v0 v1 v2 v3 v4 v5 w0 w1 w2 w3 w4 w5 hh => ih v0 v1 v2 v3 v4 v5 w0 w1 w2 w3 w4 w5 hh) m_many m_row m_isSpent l3 l5 l7 x29 0 r_m_many r_m_row r_m_isSpent r_l3 r_l5 r_l7 rx29 (r32_lit _ (by decide)) h
    replace h := h.2 b40
    refine q_iconst g (1) dX8_factors_44 ?_
    refine q_goto g (4) 49 (by decide) dX8_factors_45 ?_
    refine q_lv (lv' := [(0, .ref hX8), (3, .long (i64 l3)), (5, .long (i64 l5)), (7, .long (i64 l7)), (9, .long (i64 x29))]) [1, 2, 3, 4, 0] rfl ?_
    exact s_X8_factors_49 g hR hX8 aX8_ups aX8_downs aX8_row m_found aX8_sumMany aX8_sumShares aX8_sumSet aX8_taken aX8_restUp aX8_restDown m_fewest m_wishes aX8_wished aX8_far aX8_queue m_divided aX8_divisors aX8_least m_pairOne m_pairTwo m_sumUp m_sumDown Q hF (wp_X8_factors_6 Q n) (fun v0 v1 v2 v3 v4 v5 w0 w1 w2 w3 w4 w5 hh => ih v0 v1 v2 v3 v4 v5 w0 w1 w2 w3 w4 w5 hh) m_many m_row m_isSpent l3 l5 l7 x29 1 r_m_many r_m_row r_m_isSpent r_l3 r_l5 r_l7 rx29 (r32_lit _ (by decide)) h
def wp_X8_factors (Q : Int → (Int → Int) → Int → Prop) (m_many : Int) (m_row : Int → Int) (m_isSpent : Int) (l1 : Int) (l3 : Int) : Prop := (∃ n0 : Nat, wp_X8_factors_6 Q n0 m_many m_row m_isSpent l3 l1 1)
set_option maxHeartbeats 4000000 in
set_option maxRecDepth 100000 in
theorem c_X8_factors (l : Launch) (D : va_G) (cI cJ : ClassId) (zt : Nat) (hX8 : Nat) (aX8_ups : Nat) (aX8_downs : Nat) (m_many : Int) (aX8_row : Nat) (m_isSpent : Int) (m_found : Int) (aX8_sumMany : Nat) (aX8_sumShares : Nat) (aX8_sumSet : Nat) (aX8_taken : Nat) (aX8_restUp : Nat) (aX8_restDown : Nat) (m_fewest : Int) (m_wishes : Int) (aX8_wished : Nat) (aX8_far : Nat) (aX8_queue : Nat) (m_divided : Int) (aX8_divisors : Nat) (aX8_least : Nat) (m_pairOne : Int) (m_pairTwo : Int) (m_sumUp : Int) (m_sumDown : Int) (m_row : Int → Int) (l1 : Int) (l3 : Int) (Q : Int → (Int → Int) → Int → Prop) (r_m_many : r32 m_many) (r_m_row : rr64 m_row) (r_m_isSpent : r32 m_isSpent) (r_l1 : r64 l1) (r_l3 : r64 l3) (h : wp_X8_factors Q m_many m_row m_isSpent l1 l3) : Ct l D cI cJ zt yX8_factors cX8_factors 11 none 2 0 0 [.ref hX8, .long (i64 l1), .long (i64 l3)] [(hX8, .inr (7, [.ref aX8_ups, .ref aX8_downs, .int (i32 m_many), .ref aX8_row, .int (i32 m_isSpent), .int (i32 m_found), .ref aX8_sumMany, .ref aX8_sumShares, .ref aX8_sumSet, .ref aX8_taken, .ref aX8_restUp, .ref aX8_restDown, .int (i32 m_fewest), .int (i32 m_wishes), .ref aX8_wished, .ref aX8_far, .ref aX8_queue, .int (i32 m_divided), .ref aX8_divisors, .ref aX8_least, .long (i64 m_pairOne), .long (i64 m_pairTwo), .long (i64 m_sumUp), .long (i64 m_sumDown)])), (aX8_row, aL cJ 17 m_row)] (po_X8_factors cI cJ hX8 aX8_ups aX8_downs aX8_row m_found aX8_sumMany aX8_sumShares aX8_sumSet aX8_taken aX8_restUp aX8_restDown m_fewest m_wishes aX8_wished aX8_far aX8_queue m_divided aX8_divisors aX8_least m_pairOne m_pairTwo m_sumUp m_sumDown Q) := by
  refine ct_of (by decide +kernel) (Nat.le_of_ble_eq_true rfl) (fun X hl hDD hcI hcJ hzt hR hF hnm g => ?_)
  subst hl; subst hDD; subst hcI; subst hcJ; subst hzt
  show Wat X 0 0 0 [(0, .ref hX8), (1, .long (i64 l1)), (3, .long (i64 l3))] [] [(hX8, .inr (7, [.ref aX8_ups, .ref aX8_downs, .int (i32 m_many), .ref aX8_row, .int (i32 m_isSpent), .int (i32 m_found), .ref aX8_sumMany, .ref aX8_sumShares, .ref aX8_sumSet, .ref aX8_taken, .ref aX8_restUp, .ref aX8_restDown, .int (i32 m_fewest), .int (i32 m_wishes), .ref aX8_wished, .ref aX8_far, .ref aX8_queue, .int (i32 m_divided), .ref aX8_divisors, .ref aX8_least, .long (i64 m_pairOne), .long (i64 m_pairTwo), .long (i64 m_sumUp), .long (i64 m_sumDown)])), (aX8_row, aL X.cJ 17 m_row)]
  replace g : Gd X cX8_factors RX8 none 11 := g
  rw [wp_X8_factors] at h
  refine q_lload_n g 1 1 rfl dX8_factors_0 ?_
  refine q_lstore (lv' := [(5, .long (i64 l1)), (0, .ref hX8), (1, .long (i64 l1)), (3, .long (i64 l3))]) g 5   (by decide) rfl dX8_factors_1 ?_
  refine q_lconst g 1 1 rfl dX8_factors_3 ?_
  refine q_lstore (lv' := [(7, .long (i64 1)), (5, .long (i64 l1)), (0, .ref hX8), (1, .long (i64 l1)), (3, .long (i64 l3))]) g 7   (by decide) rfl dX8_factors_4 ?_
  refine q_lv (lv' := [(0, .ref hX8), (3, .long (i64 l3)), (5, .long (i64 l1)), (7, .long (i64 1))]) [2, 4, 1, 0] rfl ?_
  obtain ⟨n0, h⟩ := h
  exact s_X8_factors_6 g hR hX8 aX8_ups aX8_downs aX8_row m_found aX8_sumMany aX8_sumShares aX8_sumSet aX8_taken aX8_restUp aX8_restDown m_fewest m_wishes aX8_wished aX8_far aX8_queue m_divided aX8_divisors aX8_least m_pairOne m_pairTwo m_sumUp m_sumDown Q hF n0 m_many m_row m_isSpent l3 l1 1 r_m_many r_m_row r_m_isSpent r_l3 r_l1 (r64_lit _ (by decide)) h
theorem dX8_findPairs_0 : decode cX8_findPairs 0 = .ok (.iconst 0, 1) := by decide +kernel
theorem dX8_findPairs_1 : decode cX8_findPairs 1 = .ok (.istore 6, 2) := by decide +kernel
theorem dX8_findPairs_3 : decode cX8_findPairs 3 = .ok (.lconst 1, 1) := by decide +kernel
theorem dX8_findPairs_4 : decode cX8_findPairs 4 = .ok (.lstore 7, 2) := by decide +kernel
theorem dX8_findPairs_6 : decode cX8_findPairs 6 = .ok (.lload 7, 2) := by decide +kernel
theorem dX8_findPairs_8 : decode cX8_findPairs 8 = .ok (.lload_n 3, 1) := by decide +kernel
theorem dX8_findPairs_9 : decode cX8_findPairs 9 = .ok (.lcmp, 1) := by decide +kernel
theorem dX8_findPairs_10 : decode cX8_findPairs 10 = .ok (.ifCond .ge 107, 3) := by decide +kernel
theorem dX8_findPairs_13 : decode cX8_findPairs 13 = .ok (.lload_n 3, 1) := by decide +kernel
theorem dX8_findPairs_14 : decode cX8_findPairs 14 = .ok (.lload_n 3, 1) := by decide +kernel
theorem dX8_findPairs_15 : decode cX8_findPairs 15 = .ok (.lmul, 1) := by decide +kernel
theorem dX8_findPairs_16 : decode cX8_findPairs 16 = .ok (.lload 7, 2) := by decide +kernel
theorem dX8_findPairs_18 : decode cX8_findPairs 18 = .ok (.lrem, 1) := by decide +kernel
theorem dX8_findPairs_19 : decode cX8_findPairs 19 = .ok (.lconst 0, 1) := by decide +kernel
theorem dX8_findPairs_20 : decode cX8_findPairs 20 = .ok (.lcmp, 1) := by decide +kernel
theorem dX8_findPairs_21 : decode cX8_findPairs 21 = .ok (.ifCond .ne 33, 3) := by decide +kernel
theorem dX8_findPairs_24 : decode cX8_findPairs 24 = .ok (.lload_n 3, 1) := by decide +kernel
theorem dX8_findPairs_25 : decode cX8_findPairs 25 = .ok (.lload 7, 2) := by decide +kernel
theorem dX8_findPairs_27 : decode cX8_findPairs 27 = .ok (.ladd, 1) := by decide +kernel
theorem dX8_findPairs_28 : decode cX8_findPairs 28 = .ok (.lload_n 1, 1) := by decide +kernel
theorem dX8_findPairs_29 : decode cX8_findPairs 29 = .ok (.lrem, 1) := by decide +kernel
theorem dX8_findPairs_30 : decode cX8_findPairs 30 = .ok (.lconst 0, 1) := by decide +kernel
theorem dX8_findPairs_31 : decode cX8_findPairs 31 = .ok (.lcmp, 1) := by decide +kernel
theorem dX8_findPairs_32 : decode cX8_findPairs 32 = .ok (.ifCond .ne 22, 3) := by decide +kernel
theorem dX8_findPairs_35 : decode cX8_findPairs 35 = .ok (.lload_n 3, 1) := by decide +kernel
theorem dX8_findPairs_36 : decode cX8_findPairs 36 = .ok (.lload_n 3, 1) := by decide +kernel
theorem dX8_findPairs_37 : decode cX8_findPairs 37 = .ok (.lload_n 3, 1) := by decide +kernel
theorem dX8_findPairs_38 : decode cX8_findPairs 38 = .ok (.lmul, 1) := by decide +kernel
theorem dX8_findPairs_39 : decode cX8_findPairs 39 = .ok (.lload 7, 2) := by decide +kernel
theorem dX8_findPairs_41 : decode cX8_findPairs 41 = .ok (.ldiv, 1) := by decide +kernel
theorem dX8_findPairs_42 : decode cX8_findPairs 42 = .ok (.ladd, 1) := by decide +kernel
theorem dX8_findPairs_43 : decode cX8_findPairs 43 = .ok (.lload_n 1, 1) := by decide +kernel
theorem dX8_findPairs_44 : decode cX8_findPairs 44 = .ok (.lrem, 1) := by decide +kernel
theorem dX8_findPairs_45 : decode cX8_findPairs 45 = .ok (.lconst 0, 1) := by decide +kernel
theorem dX8_findPairs_46 : decode cX8_findPairs 46 = .ok (.lcmp, 1) := by decide +kernel
theorem dX8_findPairs_47 : decode cX8_findPairs 47 = .ok (.ifCond .ne 7, 3) := by decide +kernel
theorem dX8_findPairs_50 : decode cX8_findPairs 50 = .ok (.iconst 1, 1) := by decide +kernel
theorem dX8_findPairs_51 : decode cX8_findPairs 51 = .ok (.goto 4, 3) := by decide +kernel
theorem dX8_findPairs_54 : decode cX8_findPairs 54 = .ok (.iconst 0, 1) := by decide +kernel
theorem dX8_findPairs_55 : decode cX8_findPairs 55 = .ok (.istore 9, 2) := by decide +kernel
theorem dX8_findPairs_57 : decode cX8_findPairs 57 = .ok (.iload 9, 2) := by decide +kernel
theorem dX8_findPairs_59 : decode cX8_findPairs 59 = .ok (.ifCond .eq 34, 3) := by decide +kernel
theorem dX8_findPairs_62 : decode cX8_findPairs 62 = .ok (.iload 6, 2) := by decide +kernel
theorem dX8_findPairs_64 : decode cX8_findPairs 64 = .ok (.iload 5, 2) := by decide +kernel
theorem dX8_findPairs_66 : decode cX8_findPairs 66 = .ok (.if_icmp .ne 27, 3) := by decide +kernel
theorem dX8_findPairs_69 : decode cX8_findPairs 69 = .ok (.aload_n 0, 1) := by decide +kernel
theorem dX8_findPairs_70 : decode cX8_findPairs 70 = .ok (.lload_n 3, 1) := by decide +kernel
theorem dX8_findPairs_71 : decode cX8_findPairs 71 = .ok (.lload 7, 2) := by decide +kernel
theorem dX8_findPairs_73 : decode cX8_findPairs 73 = .ok (.ladd, 1) := by decide +kernel
theorem dX8_findPairs_74 : decode cX8_findPairs 74 = .ok (.lload_n 1, 1) := by decide +kernel
theorem dX8_findPairs_75 : decode cX8_findPairs 75 = .ok (.ldiv, 1) := by decide +kernel
theorem dX8_findPairs_76 : decode cX8_findPairs 76 = .ok (.putfield 198, 3) := by decide +kernel
theorem dX8_findPairs_79 : decode cX8_findPairs 79 = .ok (.aload_n 0, 1) := by decide +kernel
theorem dX8_findPairs_80 : decode cX8_findPairs 80 = .ok (.lload_n 3, 1) := by decide +kernel
theorem dX8_findPairs_81 : decode cX8_findPairs 81 = .ok (.lload_n 3, 1) := by decide +kernel
theorem dX8_findPairs_82 : decode cX8_findPairs 82 = .ok (.lload_n 3, 1) := by decide +kernel
theorem dX8_findPairs_83 : decode cX8_findPairs 83 = .ok (.lmul, 1) := by decide +kernel
theorem dX8_findPairs_84 : decode cX8_findPairs 84 = .ok (.lload 7, 2) := by decide +kernel
theorem dX8_findPairs_86 : decode cX8_findPairs 86 = .ok (.ldiv, 1) := by decide +kernel
theorem dX8_findPairs_87 : decode cX8_findPairs 87 = .ok (.ladd, 1) := by decide +kernel
theorem dX8_findPairs_88 : decode cX8_findPairs 88 = .ok (.lload_n 1, 1) := by decide +kernel
theorem dX8_findPairs_89 : decode cX8_findPairs 89 = .ok (.ldiv, 1) := by decide +kernel
theorem dX8_findPairs_90 : decode cX8_findPairs 90 = .ok (.putfield 202, 3) := by decide +kernel
theorem dX8_findPairs_93 : decode cX8_findPairs 93 = .ok (.iload 6, 2) := by decide +kernel
theorem dX8_findPairs_95 : decode cX8_findPairs 95 = .ok (.iload 9, 2) := by decide +kernel
theorem dX8_findPairs_97 : decode cX8_findPairs 97 = .ok (.ifCond .eq 7, 3) := by decide +kernel
theorem dX8_findPairs_100 : decode cX8_findPairs 100 = .ok (.iconst 1, 1) := by decide +kernel
theorem dX8_findPairs_101 : decode cX8_findPairs 101 = .ok (.goto 4, 3) := by decide +kernel
theorem dX8_findPairs_104 : decode cX8_findPairs 104 = .ok (.iconst 0, 1) := by decide +kernel
theorem dX8_findPairs_105 : decode cX8_findPairs 105 = .ok (.iadd, 1) := by decide +kernel
theorem dX8_findPairs_106 : decode cX8_findPairs 106 = .ok (.istore 6, 2) := by decide +kernel
theorem dX8_findPairs_108 : decode cX8_findPairs 108 = .ok (.lload 7, 2) := by decide +kernel
theorem dX8_findPairs_110 : decode cX8_findPairs 110 = .ok (.lconst 1, 1) := by decide +kernel
theorem dX8_findPairs_111 : decode cX8_findPairs 111 = .ok (.ladd, 1) := by decide +kernel
theorem dX8_findPairs_112 : decode cX8_findPairs 112 = .ok (.lstore 7, 2) := by decide +kernel
theorem dX8_findPairs_114 : decode cX8_findPairs 114 = .ok (.goto (-108), 3) := by decide +kernel
theorem dX8_findPairs_117 : decode cX8_findPairs 117 = .ok (.iload 6, 2) := by decide +kernel
theorem dX8_findPairs_119 : decode cX8_findPairs 119 = .ok (.ireturn, 1) := by decide +kernel
abbrev po_X8_findPairs (cI cJ : ClassId) (hX8 : Nat) (aX8_ups : Nat) (aX8_downs : Nat) (m_many : Int) (aX8_row : Nat) (m_isSpent : Int) (m_found : Int) (aX8_sumMany : Nat) (aX8_sumShares : Nat) (aX8_sumSet : Nat) (aX8_taken : Nat) (aX8_restUp : Nat) (aX8_restDown : Nat) (m_fewest : Int) (m_wishes : Int) (aX8_wished : Nat) (aX8_far : Nat) (aX8_queue : Nat) (m_divided : Int) (aX8_divisors : Nat) (aX8_least : Nat) (m_sumUp : Int) (m_sumDown : Int) (Q : Int → Int → Int → Prop) : Option Value → va_W → Prop := fun rv w1 => ∃ (r0 : Int) (m_pairOne : Int) (m_pairTwo : Int), rv = some (.int (i32 r0)) ∧ w1 = [(hX8, .inr (7, [.ref aX8_ups, .ref aX8_downs, .int (i32 m_many), .ref aX8_row, .int (i32 m_isSpent), .int (i32 m_found), .ref aX8_sumMany, .ref aX8_sumShares, .ref aX8_sumSet, .ref aX8_taken, .ref aX8_restUp, .ref aX8_restDown, .int (i32 m_fewest), .int (i32 m_wishes), .ref aX8_wished, .ref aX8_far, .ref aX8_queue, .int (i32 m_divided), .ref aX8_divisors, .ref aX8_least, .long (i64 m_pairOne), .long (i64 m_pairTwo), .long (i64 m_sumUp), .long (i64 m_sumDown)]))] ∧ r32 r0 ∧ r64 m_pairOne ∧ r64 m_pairTwo ∧ Q r0 m_pairOne m_pairTwo
def wp_X8_findPairs_105 (Q : Int → Int → Int → Prop) (K_6 : Int → Int → Int → Int → Int → Int → Int → Prop) (m_pairOne : Int) (m_pairTwo : Int) (l1 : Int) (l3 : Int) (l5 : Int) (l7 : Int) (k0 : Int) (k1 : Int) : Prop := (r32 (k0 + k1) ∧ ∀ x106 : Int, x106 = (k0 + k1) → r64 (l7 + 1) ∧ ∀ x112 : Int, x112 = (l7 + 1) → K_6 m_pairOne m_pairTwo l1 l3 l5 x106 x112)
set_option maxHeartbeats 4000000 in
set_option maxRecDepth 100000 in
theorem s_X8_findPairs_105 {X : Cx} (g : Gd X cX8_findPairs RX8 (some .int) 10) (hR : X.R = rmL 1 0 0) (hX8 : Nat) (aX8_ups : Nat) (aX8_downs : Nat) (m_many : Int) (aX8_row : Nat) (m_isSpent : Int) (m_found : Int) (aX8_sumMany : Nat) (aX8_sumShares : Nat) (aX8_sumSet : Nat) (aX8_taken : Nat) (aX8_restUp : Nat) (aX8_restDown : Nat) (m_fewest : Int) (m_wishes : Int) (aX8_wished : Nat) (aX8_far : Nat) (aX8_queue : Nat) (m_divided : Int) (aX8_divisors : Nat) (aX8_least : Nat) (m_sumUp : Int) (m_sumDown : Int) (Q : Int → Int → Int → Prop) (hF : FQ X 0 0 (po_X8_findPairs X.cI X.cJ hX8 aX8_ups aX8_downs m_many aX8_row m_isSpent m_found aX8_sumMany aX8_sumShares aX8_sumSet aX8_taken aX8_restUp aX8_restDown m_fewest m_wishes aX8_wished aX8_far aX8_queue m_divided aX8_divisors aX8_least m_sumUp m_sumDown Q)) (K_6 : Int → Int → Int → Int → Int → Int → Int → Prop) (hK_6 : ∀ (m_pairOne : Int) (m_pairTwo : Int) (l1 : Int) (l3 : Int) (l5 : Int) (l6 : Int) (l7 : Int), r64 m_pairOne → r64 m_pairTwo → r64 l1 → r64 l3 → r32 l5 → r32 l6 → r64 l7 → K_6 m_pairOne m_pairTwo l1 l3 l5 l6 l7 → Wat X 0 0 6 [(0, .ref hX8), (1, .long (i64 l1)), (3, .long (i64 l3)), (5, .int (i32 l5)), (6, .int (i32 l6)), (7, .long (i64 l7))] [] [(hX8, .inr (7, [.ref aX8_ups, .ref aX8_downs, .int (i32 m_many), .ref aX8_row, .int (i32 m_isSpent), .int (i32 m_found), .ref aX8_sumMany, .ref aX8_sumShares, .ref aX8_sumSet, .ref aX8_taken, .ref aX8_restUp, .ref aX8_restDown, .int (i32 m_fewest), .int (i32 m_wishes), .ref aX8_wished, .ref aX8_far, .ref aX8_queue, .int (i32 m_divided), .ref aX8_divisors, .ref aX8_least, .long (i64 m_pairOne), .long (i64 m_pairTwo), .long (i64 m_sumUp), .long (i64 m_sumDown)]))]) : ∀ (m_pairOne : Int) (m_pairTwo : Int) (l1 : Int) (l3 : Int) (l5 : Int) (l7 : Int) (k0 : Int) (k1 : Int), r64 m_pairOne → r64 m_pairTwo → r64 l1 → r64 l3 → r32 l5 → r64 l7 → r32 k0 → r32 k1 → wp_X8_findPairs_105 Q K_6 m_pairOne m_pairTwo l1 l3 l5 l7 k0 k1 → Wat X 0 0 105 [(0, .ref hX8), (1, .long (i64 l1)), (3, .long (i64 l3)), (5, .int (i32 l5)), (7, .long (i64 l7))] [.int (i32 k1), .int (i32 k0)] [(hX8, .inr (7, [.ref aX8_ups, .ref aX8_downs, .int (i32 m_many), .ref aX8_row, .int (i32 m_isSpent), .int (i32 m_found), .ref aX8_sumMany, .ref aX8_sumShares, .ref aX8_sumSet, .ref aX8_taken, .ref aX8_restUp, .ref aX8_restDown, .int (i32 m_fewest), .int (i32 m_wishes), .ref aX8_wished, .ref aX8_far, .ref aX8_queue, .int (i32 m_divided), .ref aX8_divisors, .ref aX8_least, .long (i64 m_pairOne), .long (i64 m_pairTwo), .long (i64 m_sumUp), .long (i64 m_sumDown)]))] := by
  intro m_pairOne m_pairTwo l1 l3 l5 l7 k0 k1 r_m_pairOne r_m_pairTwo r_l1 r_l3 r_l5 r_l7 r_k0 r_k1 h
  rw [wp_X8_findPairs_105] at h
  obtain ⟨c105, h⟩ := h
  refine q_iadd g dX8_findPairs_105 ?_
  refine q_topi c105 (fun x106 ex106 rx106 => ?_)
  replace h := h x106 ex106
  refine q_istore (lv' := [(6, .int (i32 x106)), (0, .ref hX8), (1, .long (i64 l1)), (3, .long (i64 l3)), (5, .int (i32 l5)), (7, .long (i64 l7))]) g 6   (by decide) rfl dX8_findPairs_106 ?_
  refine q_lload g 7 5 rfl dX8_findPairs_108 ?_
  refine q_lconst g 1 1 rfl dX8_findPairs_110 ?_
  obtain ⟨c111, h⟩ := h
  refine q_ladd g dX8_findPairs_111 ?_
  refine q_topl c111 (fun x112 ex112 rx112 => ?_)
  replace h := h x112 ex112
  refine q_lstore (lv' := [(7, .long (i64 x112)), (6, .int (i32 x106)), (0, .ref hX8), (1, .long (i64 l1)), (3, .long (i64 l3)), (5, .int (i32 l5))]) g 7   (by decide) rfl dX8_findPairs_112 ?_
  refine q_goto g (-108) 6 (by decide) dX8_findPairs_114 ?_
  refine q_lv (lv' := [(0, .ref hX8), (1, .long (i64 l1)), (3, .long (i64 l3)), (5, .int (i32 l5)), (6, .int (i32 x106)), (7, .long (i64 x112))]) [2, 3, 4, 5, 1, 0] rfl ?_
  exact hK_6 m_pairOne m_pairTwo l1 l3 l5 x106 x112 r_m_pairOne r_m_pairTwo r_l1 r_l3 r_l5 rx106 rx112 h
def wp_X8_findPairs_93 (Q : Int → Int → Int → Prop) (K_6 : Int → Int → Int → Int → Int → Int → Int → Prop) (m_pairOne : Int) (m_pairTwo : Int) (l1 : Int) (l3 : Int) (l5 : Int) (l6 : Int) (l7 : Int) (l9 : Int) : Prop := ((l9 = 0 → wp_X8_findPairs_105 Q K_6 m_pairOne m_pairTwo l1 l3 l5 l7 l6 0) ∧
  (¬ (l9 = 0) → wp_X8_findPairs_105 Q K_6 m_pairOne m_pairTwo l1 l3 l5 l7 l6 1))
set_option maxHeartbeats 4000000 in
set_option maxRecDepth 100000 in
theorem s_X8_findPairs_93 {X : Cx} (g : Gd X cX8_findPairs RX8 (some .int) 10) (hR : X.R = rmL 1 0 0) (hX8 : Nat) (aX8_ups : Nat) (aX8_downs : Nat) (m_many : Int) (aX8_row : Nat) (m_isSpent : Int) (m_found : Int) (aX8_sumMany : Nat) (aX8_sumShares : Nat) (aX8_sumSet : Nat) (aX8_taken : Nat) (aX8_restUp : Nat) (aX8_restDown : Nat) (m_fewest : Int) (m_wishes : Int) (aX8_wished : Nat) (aX8_far : Nat) (aX8_queue : Nat) (m_divided : Int) (aX8_divisors : Nat) (aX8_least : Nat) (m_sumUp : Int) (m_sumDown : Int) (Q : Int → Int → Int → Prop) (hF : FQ X 0 0 (po_X8_findPairs X.cI X.cJ hX8 aX8_ups aX8_downs m_many aX8_row m_isSpent m_found aX8_sumMany aX8_sumShares aX8_sumSet aX8_taken aX8_restUp aX8_restDown m_fewest m_wishes aX8_wished aX8_far aX8_queue m_divided aX8_divisors aX8_least m_sumUp m_sumDown Q)) (K_6 : Int → Int → Int → Int → Int → Int → Int → Prop) (hK_6 : ∀ (m_pairOne : Int) (m_pairTwo : Int) (l1 : Int) (l3 : Int) (l5 : Int) (l6 : Int) (l7 : Int), r64 m_pairOne → r64 m_pairTwo → r64 l1 → r64 l3 → r32 l5 → r32 l6 → r64 l7 → K_6 m_pairOne m_pairTwo l1 l3 l5 l6 l7 → Wat X 0 0 6 [(0, .ref hX8), (1, .long (i64 l1)), (3, .long (i64 l3)), (5, .int (i32 l5)), (6, .int (i32 l6)), (7, .long (i64 l7))] [] [(hX8, .inr (7, [.ref aX8_ups, .ref aX8_downs, .int (i32 m_many), .ref aX8_row, .int (i32 m_isSpent), .int (i32 m_found), .ref aX8_sumMany, .ref aX8_sumShares, .ref aX8_sumSet, .ref aX8_taken, .ref aX8_restUp, .ref aX8_restDown, .int (i32 m_fewest), .int (i32 m_wishes), .ref aX8_wished, .ref aX8_far, .ref aX8_queue, .int (i32 m_divided), .ref aX8_divisors, .ref aX8_least, .long (i64 m_pairOne), .long (i64 m_pairTwo), .long (i64 m_sumUp), .long (i64 m_sumDown)]))]) : ∀ (m_pairOne : Int) (m_pairTwo : Int) (l1 : Int) (l3 : Int) (l5 : Int) (l6 : Int) (l7 : Int) (l9 : Int), r64 m_pairOne → r64 m_pairTwo → r64 l1 → r64 l3 → r32 l5 → r32 l6 → r64 l7 → r32 l9 → wp_X8_findPairs_93 Q K_6 m_pairOne m_pairTwo l1 l3 l5 l6 l7 l9 → Wat X 0 0 93 [(0, .ref hX8), (1, .long (i64 l1)), (3, .long (i64 l3)), (5, .int (i32 l5)), (6, .int (i32 l6)), (7, .long (i64 l7)), (9, .int (i32 l9))] [] [(hX8, .inr (7, [.ref aX8_ups, .ref aX8_downs, .int (i32 m_many), .ref aX8_row, .int (i32 m_isSpent), .int (i32 m_found), .ref aX8_sumMany, .ref aX8_sumShares, .ref aX8_sumSet, .ref aX8_taken, .ref aX8_restUp, .ref aX8_restDown, .int (i32 m_fewest), .int (i32 m_wishes), .ref aX8_wished, .ref aX8_far, .ref aX8_queue, .int (i32 m_divided), .ref aX8_divisors, .ref aX8_least, .long (i64 m_pairOne), .long (i64 m_pairTwo), .long (i64 m_sumUp), .long (i64 m_sumDown)]))] := by
  intro m_pairOne m_pairTwo l1 l3 l5 l6 l7 l9 r_m_pairOne r_m_pairTwo r_l1 r_l3 r_l5 r_l6 r_l7 r_l9 h
  rw [wp_X8_findPairs_93] at h
  refine q_iload g 6 4 rfl dX8_findPairs_93 ?_
  refine q_iload g 9 6 rfl dX8_findPairs_95 ?_
  refine q_if_eq g (7) 104 r_l9 (by decide) dX8_findPairs_97 (fun b97 => ?_) (fun b97 => ?_)
  · replace h := h.1 b97
    refine q_iconst g (0) dX8_findPairs_104 ?_
    refine q_lv (lv' := [(0, .ref hX8), (1, .long (i64 l1)), (3, .long (i64 l3)), (5, .int (i32 l5)), (7, .long (i64 l7))]) [0, 1, 2, 3, 5] rfl ?_
    exact s_X8_findPairs_105 g hR hX8 aX8_ups aX8_downs m_many aX8_row m_isSpent m_found aX8_sumMany aX8_sumShares aX8_sumSet aX8_taken aX8_restUp aX8_restDown m_fewest m_wishes aX8_wished aX8_far aX8_queue m_divided aX8_divisors aX8_least m_sumUp m_sumDown Q hF K_6 hK_6 m_pairOne m_pairTwo l1 l3 l5 l7 l6 0 r_m_pairOne r_m_pairTwo r_l1 r_l3 r_l5 r_l7 r_l6 (r32_lit _ (by decide)) h
  replace h := h.2 b97
  refine q_iconst g (1) dX8_findPairs_100 ?_
  refine q_goto g (4) 105 (by decide) dX8_findPairs_101 ?_
  refine q_lv (lv' := [(0, .ref hX8), (1, .long (i64 l1)), (3, .long (i64 l3)), (5, .int (i32 l5)), (7, .long (i64 l7))]) [0, 1, 2, 3, 5] rfl ?_
  exact s_X8_findPairs_105 g hR hX8 aX8_ups aX8_downs m_many aX8_row m_isSpent m_found aX8_sumMany aX8_sumShares aX8_sumSet aX8_taken aX8_restUp aX8_restDown m_fewest m_wishes aX8_wished aX8_far aX8_queue m_divided aX8_divisors aX8_least m_sumUp m_sumDown Q hF K_6 hK_6 m_pairOne m_pairTwo l1 l3 l5 l7 l6 1 r_m_pairOne r_m_pairTwo r_l1 r_l3 r_l5 r_l7 r_l6 (r32_lit _ (by decide)) h
def wp_X8_findPairs_55 (Q : Int → Int → Int → Prop) (K_6 : Int → Int → Int → Int → Int → Int → Int → Prop) (m_pairOne : Int) (m_pairTwo : Int) (l1 : Int) (l3 : Int) (l5 : Int) (l6 : Int) (l7 : Int) (k0 : Int) : Prop := ((k0 = 0 → wp_X8_findPairs_93 Q K_6 m_pairOne m_pairTwo l1 l3 l5 l6 l7 k0) ∧
  (¬ (k0 = 0) → ((¬ l6 = l5 → wp_X8_findPairs_93 Q K_6 m_pairOne m_pairTwo l1 l3 l5 l6 l7 k0) ∧
  (l6 = l5 → (r64 (l3 + l7) ∧ 0 < l1 ∧ ∀ x76 : Int, x76 = (Int.tdiv (l3 + l7) l1) → r64 (l3 * l3) ∧ 0 < l7 ∧ r64 (l3 + (Int.tdiv (l3 * l3) l7)) ∧ 0 < l1 ∧ ∀ x90 : Int, x90 = (Int.tdiv (l3 + (Int.tdiv (l3 * l3) l7)) l1) → wp_X8_findPairs_93 Q K_6 x76 x90 l1 l3 l5 l6 l7 k0)))))
set_option maxHeartbeats 4000000 in
set_option maxRecDepth 100000 in
theorem s_X8_findPairs_55 {X : Cx} (g : Gd X cX8_findPairs RX8 (some .int) 10) (hR : X.R = rmL 1 0 0) (hX8 : Nat) (aX8_ups : Nat) (aX8_downs : Nat) (m_many : Int) (aX8_row : Nat) (m_isSpent : Int) (m_found : Int) (aX8_sumMany : Nat) (aX8_sumShares : Nat) (aX8_sumSet : Nat) (aX8_taken : Nat) (aX8_restUp : Nat) (aX8_restDown : Nat) (m_fewest : Int) (m_wishes : Int) (aX8_wished : Nat) (aX8_far : Nat) (aX8_queue : Nat) (m_divided : Int) (aX8_divisors : Nat) (aX8_least : Nat) (m_sumUp : Int) (m_sumDown : Int) (Q : Int → Int → Int → Prop) (hF : FQ X 0 0 (po_X8_findPairs X.cI X.cJ hX8 aX8_ups aX8_downs m_many aX8_row m_isSpent m_found aX8_sumMany aX8_sumShares aX8_sumSet aX8_taken aX8_restUp aX8_restDown m_fewest m_wishes aX8_wished aX8_far aX8_queue m_divided aX8_divisors aX8_least m_sumUp m_sumDown Q)) (K_6 : Int → Int → Int → Int → Int → Int → Int → Prop) (hK_6 : ∀ (m_pairOne : Int) (m_pairTwo : Int) (l1 : Int) (l3 : Int) (l5 : Int) (l6 : Int) (l7 : Int), r64 m_pairOne → r64 m_pairTwo → r64 l1 → r64 l3 → r32 l5 → r32 l6 → r64 l7 → K_6 m_pairOne m_pairTwo l1 l3 l5 l6 l7 → Wat X 0 0 6 [(0, .ref hX8), (1, .long (i64 l1)), (3, .long (i64 l3)), (5, .int (i32 l5)), (6, .int (i32 l6)), (7, .long (i64 l7))] [] [(hX8, .inr (7, [.ref aX8_ups, .ref aX8_downs, .int (i32 m_many), .ref aX8_row, .int (i32 m_isSpent), .int (i32 m_found), .ref aX8_sumMany, .ref aX8_sumShares, .ref aX8_sumSet, .ref aX8_taken, .ref aX8_restUp, .ref aX8_restDown, .int (i32 m_fewest), .int (i32 m_wishes), .ref aX8_wished, .ref aX8_far, .ref aX8_queue, .int (i32 m_divided), .ref aX8_divisors, .ref aX8_least, .long (i64 m_pairOne), .long (i64 m_pairTwo), .long (i64 m_sumUp), .long (i64 m_sumDown)]))]) : ∀ (m_pairOne : Int) (m_pairTwo : Int) (l1 : Int) (l3 : Int) (l5 : Int) (l6 : Int) (l7 : Int) (k0 : Int), r64 m_pairOne → r64 m_pairTwo → r64 l1 → r64 l3 → r32 l5 → r32 l6 → r64 l7 → r32 k0 → wp_X8_findPairs_55 Q K_6 m_pairOne m_pairTwo l1 l3 l5 l6 l7 k0 → Wat X 0 0 55 [(0, .ref hX8), (1, .long (i64 l1)), (3, .long (i64 l3)), (5, .int (i32 l5)), (6, .int (i32 l6)), (7, .long (i64 l7))] [.int (i32 k0)] [(hX8, .inr (7, [.ref aX8_ups, .ref aX8_downs, .int (i32 m_many), .ref aX8_row, .int (i32 m_isSpent), .int (i32 m_found), .ref aX8_sumMany, .ref aX8_sumShares, .ref aX8_sumSet, .ref aX8_taken, .ref aX8_restUp, .ref aX8_restDown, .int (i32 m_fewest), .int (i32 m_wishes), .ref aX8_wished, .ref aX8_far, .ref aX8_queue, .int (i32 m_divided), .ref aX8_divisors, .ref aX8_least, .long (i64 m_pairOne), .long (i64 m_pairTwo), .long (i64 m_sumUp), .long (i64 m_sumDown)]))] := by
  intro m_pairOne m_pairTwo l1 l3 l5 l6 l7 k0 r_m_pairOne r_m_pairTwo r_l1 r_l3 r_l5 r_l6 r_l7 r_k0 h
  rw [wp_X8_findPairs_55] at h
  refine q_istore (lv' := [(9, .int (i32 k0)), (0, .ref hX8), (1, .long (i64 l1)), (3, .long (i64 l3)), (5, .int (i32 l5)), (6, .int (i32 l6)), (7, .long (i64 l7))]) g 9   (by decide) rfl dX8_findPairs_55 ?_
  refine q_iload g 9 0 rfl dX8_findPairs_57 ?_
  refine q_if_eq g (34) 93 r_k0 (by decide) dX8_findPairs_59 (fun b59 => ?_) (fun b59 => ?_)
  · replace h := h.1 b59
    refine q_lv (lv' := [(0, .ref hX8), (1, .long (i64 l1)), (3, .long (i64 l3)), (5, .int (i32 l5)), (6, .int (i32 l6)), (7, .long (i64 l7)), (9, .int (i32 k0))]) [1, 2, 3, 4, 5, 6, 0] rfl ?_
    exact s_X8_findPairs_93 g hR hX8 aX8_ups aX8_downs m_many aX8_row m_isSpent m_found aX8_sumMany aX8_sumShares aX8_sumSet aX8_taken aX8_restUp aX8_restDown m_fewest m_wishes aX8_wished aX8_far aX8_queue m_divided aX8_divisors aX8_least m_sumUp m_sumDown Q hF K_6 hK_6 m_pairOne m_pairTwo l1 l3 l5 l6 l7 k0 r_m_pairOne r_m_pairTwo r_l1 r_l3 r_l5 r_l6 r_l7 r_k0 h
  replace h := h.2 b59
  refine q_iload g 6 5 rfl dX8_findPairs_62 ?_
  refine q_iload g 5 4 rfl dX8_findPairs_64 ?_
  refine q_icmp_ne g (27) 93 r_l6 r_l5 (by decide) dX8_findPairs_66 (fun b66 => ?_) (fun b66 => ?_)
  · replace h := h.1 b66
    refine q_lv (lv' := [(0, .ref hX8), (1, .long (i64 l1)), (3, .long (i64 l3)), (5, .int (i32 l5)), (6, .int (i32 l6)), (7, .long (i64 l7)), (9, .int (i32 k0))]) [1, 2, 3, 4, 5, 6, 0] rfl ?_
    exact s_X8_findPairs_93 g hR hX8 aX8_ups aX8_downs m_many aX8_row m_isSpent m_found aX8_sumMany aX8_sumShares aX8_sumSet aX8_taken aX8_restUp aX8_restDown m_fewest m_wishes aX8_wished aX8_far aX8_queue m_divided aX8_divisors aX8_least m_sumUp m_sumDown Q hF K_6 hK_6 m_pairOne m_pairTwo l1 l3 l5 l6 l7 k0 r_m_pairOne r_m_pairTwo r_l1 r_l3 r_l5 r_l6 r_l7 r_k0 h
  replace h := h.2 b66
  refine q_aload_n g 0 1 rfl dX8_findPairs_69 ?_
  refine q_lload_n g 3 3 rfl dX8_findPairs_70 ?_
  refine q_lload g 7 6 rfl dX8_findPairs_71 ?_
  obtain ⟨c73, h⟩ := h
  refine q_ladd g dX8_findPairs_73 ?_
  refine q_lload_n g 1 2 rfl dX8_findPairs_74 ?_
  obtain ⟨c75, h⟩ := h
  refine q_ldiv g c73 r_l1 (ne_of_pos c75) dX8_findPairs_75 ?_
  refine q_topl (r64_tdiv c73 c75) (fun x76 ex76 rx76 => ?_)
  replace h := h x76 ex76
  refine q_put (C := RX8) (T := TX8) (N := 24) (ty := .long) (ws' := [(hX8, .inr (7, [.ref aX8_ups, .ref aX8_downs, .int (i32 m_many), .ref aX8_row, .int (i32 m_isSpent), .int (i32 m_found), .ref aX8_sumMany, .ref aX8_sumShares, .ref aX8_sumSet, .ref aX8_taken, .ref aX8_restUp, .ref aX8_restDown, .int (i32 m_fewest), .int (i32 m_wishes), .ref aX8_wished, .ref aX8_far, .ref aX8_queue, .int (i32 m_divided), .ref aX8_divisors, .ref aX8_least, .long (i64 x76), .long (i64 m_pairTwo), .long (i64 m_sumUp), .long (i64 m_sumDown)]))]) g 198 inX8 tyX8_ok nmX8 0 20 rfl rfl (by decide) wF_X8_198 rfl rfl rfl rfl (Nat.le_of_ble_eq_true rfl) rfl dX8_findPairs_76 ?_
  refine q_aload_n g 0 1 rfl dX8_findPairs_79 ?_
  refine q_lload_n g 3 3 rfl dX8_findPairs_80 ?_
  refine q_lload_n g 3 3 rfl dX8_findPairs_81 ?_
  refine q_lload_n g 3 3 rfl dX8_findPairs_82 ?_
  obtain ⟨c83, h⟩ := h
  refine q_lmul g dX8_findPairs_83 ?_
  refine q_lload g 7 6 rfl dX8_findPairs_84 ?_
  obtain ⟨c86, h⟩ := h
  refine q_ldiv g c83 r_l7 (ne_of_pos c86) dX8_findPairs_86 ?_
  obtain ⟨c87, h⟩ := h
  refine q_ladd g dX8_findPairs_87 ?_
  refine q_lload_n g 1 2 rfl dX8_findPairs_88 ?_
  obtain ⟨c89, h⟩ := h
  refine q_ldiv g c87 r_l1 (ne_of_pos c89) dX8_findPairs_89 ?_
  refine q_topl (r64_tdiv c87 c89) (fun x90 ex90 rx90 => ?_)
  replace h := h x90 ex90
  refine q_put (C := RX8) (T := TX8) (N := 24) (ty := .long) (ws' := [(hX8, .inr (7, [.ref aX8_ups, .ref aX8_downs, .int (i32 m_many), .ref aX8_row, .int (i32 m_isSpent), .int (i32 m_found), .ref aX8_sumMany, .ref aX8_sumShares, .ref aX8_sumSet, .ref aX8_taken, .ref aX8_restUp, .ref aX8_restDown, .int (i32 m_fewest), .int (i32 m_wishes), .ref aX8_wished, .ref aX8_far, .ref aX8_queue, .int (i32 m_divided), .ref aX8_divisors, .ref aX8_least, .long (i64 x76), .long (i64 x90), .long (i64 m_sumUp), .long (i64 m_sumDown)]))]) g 202 inX8 tyX8_ok nmX8 0 21 rfl rfl (by decide) wF_X8_202 rfl rfl rfl rfl (Nat.le_of_ble_eq_true rfl) rfl dX8_findPairs_90 ?_
  refine q_lv (lv' := [(0, .ref hX8), (1, .long (i64 l1)), (3, .long (i64 l3)), (5, .int (i32 l5)), (6, .int (i32 l6)), (7, .long (i64 l7)), (9, .int (i32 k0))]) [1, 2, 3, 4, 5, 6, 0] rfl ?_
  exact s_X8_findPairs_93 g hR hX8 aX8_ups aX8_downs m_many aX8_row m_isSpent m_found aX8_sumMany aX8_sumShares aX8_sumSet aX8_taken aX8_restUp aX8_restDown m_fewest m_wishes aX8_wished aX8_far aX8_queue m_divided aX8_divisors aX8_least m_sumUp m_sumDown Q hF K_6 hK_6 x76 x90 l1 l3 l5 l6 l7 k0 rx76 rx90 r_l1 r_l3 r_l5 r_l6 r_l7 r_k0 h
def wp_X8_findPairs_54 (Q : Int → Int → Int → Prop) (K_6 : Int → Int → Int → Int → Int → Int → Int → Prop) (m_pairOne : Int) (m_pairTwo : Int) (l1 : Int) (l3 : Int) (l5 : Int) (l6 : Int) (l7 : Int) : Prop := wp_X8_findPairs_55 Q K_6 m_pairOne m_pairTwo l1 l3 l5 l6 l7 0
set_option maxHeartbeats 4000000 in
set_option maxRecDepth 100000 in
theorem s_X8_findPairs_54 {X : Cx} (g : Gd X cX8_findPairs RX8 (some .int) 10) (hR : X.R = rmL 1 0 0) (hX8 : Nat) (aX8_ups : Nat) (aX8_downs : Nat) (m_many : Int) (aX8_row : Nat) (m_isSpent : Int) (m_found : Int) (aX8_sumMany : Nat) (aX8_sumShares : Nat) (aX8_sumSet : Nat) (aX8_taken : Nat) (aX8_restUp : Nat) (aX8_restDown : Nat) (m_fewest : Int) (m_wishes : Int) (aX8_wished : Nat) (aX8_far : Nat) (aX8_queue : Nat) (m_divided : Int) (aX8_divisors : Nat) (aX8_least : Nat) (m_sumUp : Int) (m_sumDown : Int) (Q : Int → Int → Int → Prop) (hF : FQ X 0 0 (po_X8_findPairs X.cI X.cJ hX8 aX8_ups aX8_downs m_many aX8_row m_isSpent m_found aX8_sumMany aX8_sumShares aX8_sumSet aX8_taken aX8_restUp aX8_restDown m_fewest m_wishes aX8_wished aX8_far aX8_queue m_divided aX8_divisors aX8_least m_sumUp m_sumDown Q)) (K_6 : Int → Int → Int → Int → Int → Int → Int → Prop) (hK_6 : ∀ (m_pairOne : Int) (m_pairTwo : Int) (l1 : Int) (l3 : Int) (l5 : Int) (l6 : Int) (l7 : Int), r64 m_pairOne → r64 m_pairTwo → r64 l1 → r64 l3 → r32 l5 → r32 l6 → r64 l7 → K_6 m_pairOne m_pairTwo l1 l3 l5 l6 l7 → Wat X 0 0 6 [(0, .ref hX8), (1, .long (i64 l1)), (3, .long (i64 l3)), (5, .int (i32 l5)), (6, .int (i32 l6)), (7, .long (i64 l7))] [] [(hX8, .inr (7, [.ref aX8_ups, .ref aX8_downs, .int (i32 m_many), .ref aX8_row, .int (i32 m_isSpent), .int (i32 m_found), .ref aX8_sumMany, .ref aX8_sumShares, .ref aX8_sumSet, .ref aX8_taken, .ref aX8_restUp, .ref aX8_restDown, .int (i32 m_fewest), .int (i32 m_wishes), .ref aX8_wished, .ref aX8_far, .ref aX8_queue, .int (i32 m_divided), .ref aX8_divisors, .ref aX8_least, .long (i64 m_pairOne), .long (i64 m_pairTwo), .long (i64 m_sumUp), .long (i64 m_sumDown)]))]) : ∀ (m_pairOne : Int) (m_pairTwo : Int) (l1 : Int) (l3 : Int) (l5 : Int) (l6 : Int) (l7 : Int), r64 m_pairOne → r64 m_pairTwo → r64 l1 → r64 l3 → r32 l5 → r32 l6 → r64 l7 → wp_X8_findPairs_54 Q K_6 m_pairOne m_pairTwo l1 l3 l5 l6 l7 → Wat X 0 0 54 [(0, .ref hX8), (1, .long (i64 l1)), (3, .long (i64 l3)), (5, .int (i32 l5)), (6, .int (i32 l6)), (7, .long (i64 l7))] [] [(hX8, .inr (7, [.ref aX8_ups, .ref aX8_downs, .int (i32 m_many), .ref aX8_row, .int (i32 m_isSpent), .int (i32 m_found), .ref aX8_sumMany, .ref aX8_sumShares, .ref aX8_sumSet, .ref aX8_taken, .ref aX8_restUp, .ref aX8_restDown, .int (i32 m_fewest), .int (i32 m_wishes), .ref aX8_wished, .ref aX8_far, .ref aX8_queue, .int (i32 m_divided), .ref aX8_divisors, .ref aX8_least, .long (i64 m_pairOne), .long (i64 m_pairTwo), .long (i64 m_sumUp), .long (i64 m_sumDown)]))] := by
  intro m_pairOne m_pairTwo l1 l3 l5 l6 l7 r_m_pairOne r_m_pairTwo r_l1 r_l3 r_l5 r_l6 r_l7 h
  rw [wp_X8_findPairs_54] at h
  refine q_iconst g (0) dX8_findPairs_54 ?_
  exact s_X8_findPairs_55 g hR hX8 aX8_ups aX8_downs m_many aX8_row m_isSpent m_found aX8_sumMany aX8_sumShares aX8_sumSet aX8_taken aX8_restUp aX8_restDown m_fewest m_wishes aX8_wished aX8_far aX8_queue m_divided aX8_divisors aX8_least m_sumUp m_sumDown Q hF K_6 hK_6 m_pairOne m_pairTwo l1 l3 l5 l6 l7 0 r_m_pairOne r_m_pairTwo r_l1 r_l3 r_l5 r_l6 r_l7 (r32_lit _ (by decide)) h
def wp_X8_findPairs_6 (Q : Int → Int → Int → Prop) : Nat → Int → Int → Int → Int → Int → Int → Int → Prop
  | 0, _, _, _, _, _, _, _ => False
  | n + 1, m_pairOne, m_pairTwo, l1, l3, l5, l6, l7 => ((l3 ≤ l7 → Q l6 m_pairOne m_pairTwo) ∧
  (¬ (l3 ≤ l7) → (r64 (l3 * l3) ∧ 0 < l7 ∧ ((¬ (Int.tmod (l3 * l3) l7) = 0 → wp_X8_findPairs_54 Q (wp_X8_findPairs_6 Q n) m_pairOne m_pairTwo l1 l3 l5 l6 l7) ∧
  ((Int.tmod (l3 * l3) l7) = 0 → (r64 (l3 + l7) ∧ 0 < l1 ∧ ((¬ (Int.tmod (l3 + l7) l1) = 0 → wp_X8_findPairs_54 Q (wp_X8_findPairs_6 Q n) m_pairOne m_pairTwo l1 l3 l5 l6 l7) ∧
  ((Int.tmod (l3 + l7) l1) = 0 → (r64 (l3 * l3) ∧ 0 < l7 ∧ r64 (l3 + (Int.tdiv (l3 * l3) l7)) ∧ 0 < l1 ∧ ((¬ (Int.tmod (l3 + (Int.tdiv (l3 * l3) l7)) l1) = 0 → wp_X8_findPairs_54 Q (wp_X8_findPairs_6 Q n) m_pairOne m_pairTwo l1 l3 l5 l6 l7) ∧
  ((Int.tmod (l3 + (Int.tdiv (l3 * l3) l7)) l1) = 0 → wp_X8_findPairs_55 Q (wp_X8_findPairs_6 Q n) m_pairOne m_pairTwo l1 l3 l5 l6 l7 1)))))))))))
set_option maxHeartbeats 4000000 in
set_option maxRecDepth 100000 in
theorem s_X8_findPairs_6 {X : Cx} (g : Gd X cX8_findPairs RX8 (some .int) 10) (hR : X.R = rmL 1 0 0) (hX8 : Nat) (aX8_ups : Nat) (aX8_downs : Nat) (m_many : Int) (aX8_row : Nat) (m_isSpent : Int) (m_found : Int) (aX8_sumMany : Nat) (aX8_sumShares : Nat) (aX8_sumSet : Nat) (aX8_taken : Nat) (aX8_restUp : Nat) (aX8_restDown : Nat) (m_fewest : Int) (m_wishes : Int) (aX8_wished : Nat) (aX8_far : Nat) (aX8_queue : Nat) (m_divided : Int) (aX8_divisors : Nat) (aX8_least : Nat) (m_sumUp : Int) (m_sumDown : Int) (Q : Int → Int → Int → Prop) (hF : FQ X 0 0 (po_X8_findPairs X.cI X.cJ hX8 aX8_ups aX8_downs m_many aX8_row m_isSpent m_found aX8_sumMany aX8_sumShares aX8_sumSet aX8_taken aX8_restUp aX8_restDown m_fewest m_wishes aX8_wished aX8_far aX8_queue m_divided aX8_divisors aX8_least m_sumUp m_sumDown Q)) : ∀ (n : Nat) (m_pairOne : Int) (m_pairTwo : Int) (l1 : Int) (l3 : Int) (l5 : Int) (l6 : Int) (l7 : Int), r64 m_pairOne → r64 m_pairTwo → r64 l1 → r64 l3 → r32 l5 → r32 l6 → r64 l7 → wp_X8_findPairs_6 Q n m_pairOne m_pairTwo l1 l3 l5 l6 l7 → Wat X 0 0 6 [(0, .ref hX8), (1, .long (i64 l1)), (3, .long (i64 l3)), (5, .int (i32 l5)), (6, .int (i32 l6)), (7, .long (i64 l7))] [] [(hX8, .inr (7, [.ref aX8_ups, .ref aX8_downs, .int (i32 m_many), .ref aX8_row, .int (i32 m_isSpent), .int (i32 m_found), .ref aX8_sumMany, .ref aX8_sumShares, .ref aX8_sumSet, .ref aX8_taken, .ref aX8_restUp, .ref aX8_restDown, .int (i32 m_fewest), .int (i32 m_wishes), .ref aX8_wished, .ref aX8_far, .ref aX8_queue, .int (i32 m_divided), .ref aX8_divisors, .ref aX8_least, .long (i64 m_pairOne), .long (i64 m_pairTwo), .long (i64 m_sumUp), .long (i64 m_sumDown)]))] := by
  intro n
  induction n with
  | zero => intro m_pairOne m_pairTwo l1 l3 l5 l6 l7 r_m_pairOne r_m_pairTwo r_l1 r_l3 r_l5 r_l6 r_l7 h; exact False.elim h
  | succ n ih =>
    intro m_pairOne m_pairTwo l1 l3 l5 l6 l7 r_m_pairOne r_m_pairTwo r_l1 r_l3 r_l5 r_l6 r_l7 h
    rw [wp_X8_findPairs_6] at h
    refine q_lload g 7 5 rfl dX8_findPairs_6 ?_
    refine q_lload_n g 3 2 rfl dX8_findPairs_8 ?_
    refine q_lcmp_ge g (107) 117 r_l7 r_l3 (by decide) dX8_findPairs_9 dX8_findPairs_10 (fun b9 => ?_) (fun b9 => ?_)
    · replace h := h.1 b9
      refine q_iload g 6 4 rfl dX8_findPairs_117 ?_
      exact q_iret g hF ⟨l6, m_pairOne, m_pairTwo, rfl, rfl, r_l6, r_m_pairOne, r_m_pairTwo, h⟩ dX8_findPairs_119
    replace h := h.2 b9
    refine q_lload_n g 3 2 rfl dX8_findPairs_13 ?_
    refine q_lload_n g 3 2 rfl dX8_findPairs_14 ?_
    obtain ⟨c15, h⟩ := h
    refine q_lmul g dX8_findPairs_15 ?_
    refine q_lload g 7 5 rfl dX8_findPairs_16 ?_
    obtain ⟨c18, h⟩ := h
    refine q_lrem g c15 r_l7 (ne_of_pos c18) dX8_findPairs_18 ?_
    refine q_lconst g 0 0 rfl dX8_findPairs_19 ?_
    refine q_lcmp_ne g (33) 54 (r64_tmod c15 r_l7 (ne_of_pos c18)) (r64_lit _ (by decide)) (by decide) dX8_findPairs_20 dX8_findPairs_21 (fun b20 => ?_) (fun b20 => ?_)
    · replace h := h.1 b20
      exact s_X8_findPairs_54 g hR hX8 aX8_ups aX8_downs m_many aX8_row m_isSpent m_found aX8_sumMany aX8_sumShares aX8_sumSet aX8_taken aX8_restUp aX8_restDown m_fewest m_wishes aX8_wished aX8_far aX8_queue m_divided aX8_divisors aX8_least m_sumUp m_sumDown Q hF (wp_X8_findPairs_6 Q n) (fun v0 v1 v2 v3 v4 v5 v6 w0 w1 w2 w3 w4 w5 w6 hh => ih v0 v1 v2 v3 v4 v5 v6 w0 w1 w2 w3 w4 w5 w6 hh) m_pairOne m_pairTwo l1 l3 l5 l6 l7 r_m_pairOne r_m_pairTwo r_l1 r_l3 r_l5 r_l6 r_l7 h
    replace h := h.2 b20
    refine q_lload_n g 3 2 rfl dX8_findPairs_24 ?_
    refine q_lload g 7 5 rfl dX8_findPairs_25 ?_
    obtain ⟨c27, h⟩ := h
    refine q_ladd g dX8_findPairs_27 ?_
    refine q_lload_n g 1 1 rfl dX8_findPairs_28 ?_
    obtain ⟨c29, h⟩ := h
    refine q_lrem g c27 r_l1 (ne_of_pos c29) dX8_findPairs_29 ?_
    refine q_lconst g 0 0 rfl dX8_findPairs_30 ?_
    refine q_lcmp_ne g (22) 54 (r64_tmod c27 r_l1 (ne_of_pos c29)) (r64_lit _ (by decide)) (by decide) dX8_findPairs_31 dX8_findPairs_32 (fun b31 => ?_) (fun b31 => ?_)
    · replace h := h.1 b31
      exact s_X8_findPairs_54 g hR hX8 aX8_ups aX8_downs m_many aX8_row m_isSpent m_found aX8_sumMany aX8_sumShares aX8_sumSet aX8_taken aX8_restUp aX8_restDown m_fewest m_wishes aX8_wished aX8_far aX8_queue m_divided aX8_divisors aX8_least m_sumUp m_sumDown Q hF (wp_X8_findPairs_6 Q n) (fun v0 v1 v2 v3 v4 v5 v6 w0 w1 w2 w3 w4 w5 w6 hh => ih v0 v1 v2 v3 v4 v5 v6 w0 w1 w2 w3 w4 w5 w6 hh) m_pairOne m_pairTwo l1 l3 l5 l6 l7 r_m_pairOne r_m_pairTwo r_l1 r_l3 r_l5 r_l6 r_l7 h
    replace h := h.2 b31
    refine q_lload_n g 3 2 rfl dX8_findPairs_35 ?_
    refine q_lload_n g 3 2 rfl dX8_findPairs_36 ?_
    refine q_lload_n g 3 2 rfl dX8_findPairs_37 ?_
    obtain ⟨c38, h⟩ := h
    refine q_lmul g dX8_findPairs_38 ?_
    refine q_lload g 7 5 rfl dX8_findPairs_39 ?_
    obtain ⟨c41, h⟩ := h
    refine q_ldiv g c38 r_l7 (ne_of_pos c41) dX8_findPairs_41 ?_
    obtain ⟨c42, h⟩ := h
    refine q_ladd g dX8_findPairs_42 ?_
    refine q_lload_n g 1 1 rfl dX8_findPairs_43 ?_
    obtain ⟨c44, h⟩ := h
    refine q_lrem g c42 r_l1 (ne_of_pos c44) dX8_findPairs_44 ?_
    refine q_lconst g 0 0 rfl dX8_findPairs_45 ?_
    refine q_lcmp_ne g (7) 54 (r64_tmod c42 r_l1 (ne_of_pos c44)) (r64_lit _ (by decide)) (by decide) dX8_findPairs_46 dX8_findPairs_47 (fun b46 => ?_) (fun b46 => ?_)
    · replace h := h.1 b46
      exact s_X8_findPairs_54 g hR hX8 aX8_ups aX8_downs m_many aX8_row m_isSpent m_found aX8_sumMany aX8_sumShares aX8_sumSet aX8_taken aX8_restUp aX8_restDown m_fewest m_wishes aX8_wished aX8_far aX8_queue m_divided aX8_divisors aX8_least m_sumUp m_sumDown Q hF (wp_X8_findPairs_6 Q n) (fun v0 v1 v2 v3 v4 v5 v6 w0 w1 w2 w3 w4 w5 w6 hh => ih v0 v1 v2 v3 v4 v5 v6 w0 w1 w2 w3 w4 w5 w6 hh) m_pairOne m_pairTwo l1 l3 l5 l6 l7 r_m_pairOne r_m_pairTwo r_l1 r_l3 r_l5 r_l6 r_l7 h
    replace h := h.2 b46
    refine q_iconst g (1) dX8_findPairs_50 ?_
    refine q_goto g (4) 55 (by decide) dX8_findPairs_51 ?_
    exact s_X8_findPairs_55 g hR hX8 aX8_ups aX8_downs m_many aX8_row m_isSpent m_found aX8_sumMany aX8_sumShares aX8_sumSet aX8_taken aX8_restUp aX8_restDown m_fewest m_wishes aX8_wished aX8_far aX8_queue m_divided aX8_divisors aX8_least m_sumUp m_sumDown Q hF (wp_X8_findPairs_6 Q n) (fun v0 v1 v2 v3 v4 v5 v6 w0 w1 w2 w3 w4 w5 w6 hh => ih v0 v1 v2 v3 v4 v5 v6 w0 w1 w2 w3 w4 w5 w6 hh) m_pairOne m_pairTwo l1 l3 l5 l6 l7 1 r_m_pairOne r_m_pairTwo r_l1 r_l3 r_l5 r_l6 r_l7 (r32_lit _ (by decide)) h
def wp_X8_findPairs (Q : Int → Int → Int → Prop) (m_pairOne : Int) (m_pairTwo : Int) (l1 : Int) (l3 : Int) (l5 : Int) : Prop := (∃ n0 : Nat, wp_X8_findPairs_6 Q n0 m_pairOne m_pairTwo l1 l3 l5 0 1)
set_option maxHeartbeats 4000000 in
set_option maxRecDepth 100000 in
theorem c_X8_findPairs (l : Launch) (D : va_G) (cI cJ : ClassId) (zt : Nat) (hX8 : Nat) (aX8_ups : Nat) (aX8_downs : Nat) (m_many : Int) (aX8_row : Nat) (m_isSpent : Int) (m_found : Int) (aX8_sumMany : Nat) (aX8_sumShares : Nat) (aX8_sumSet : Nat) (aX8_taken : Nat) (aX8_restUp : Nat) (aX8_restDown : Nat) (m_fewest : Int) (m_wishes : Int) (aX8_wished : Nat) (aX8_far : Nat) (aX8_queue : Nat) (m_divided : Int) (aX8_divisors : Nat) (aX8_least : Nat) (m_pairOne : Int) (m_pairTwo : Int) (m_sumUp : Int) (m_sumDown : Int) (l1 : Int) (l3 : Int) (l5 : Int) (Q : Int → Int → Int → Prop) (r_m_pairOne : r64 m_pairOne) (r_m_pairTwo : r64 m_pairTwo) (r_l1 : r64 l1) (r_l3 : r64 l3) (r_l5 : r32 l5) (h : wp_X8_findPairs Q m_pairOne m_pairTwo l1 l3 l5) : Ct l D cI cJ zt yX8_findPairs cX8_findPairs 10 (some .int) 1 0 0 [.ref hX8, .long (i64 l1), .long (i64 l3), .int (i32 l5)] [(hX8, .inr (7, [.ref aX8_ups, .ref aX8_downs, .int (i32 m_many), .ref aX8_row, .int (i32 m_isSpent), .int (i32 m_found), .ref aX8_sumMany, .ref aX8_sumShares, .ref aX8_sumSet, .ref aX8_taken, .ref aX8_restUp, .ref aX8_restDown, .int (i32 m_fewest), .int (i32 m_wishes), .ref aX8_wished, .ref aX8_far, .ref aX8_queue, .int (i32 m_divided), .ref aX8_divisors, .ref aX8_least, .long (i64 m_pairOne), .long (i64 m_pairTwo), .long (i64 m_sumUp), .long (i64 m_sumDown)]))] (po_X8_findPairs cI cJ hX8 aX8_ups aX8_downs m_many aX8_row m_isSpent m_found aX8_sumMany aX8_sumShares aX8_sumSet aX8_taken aX8_restUp aX8_restDown m_fewest m_wishes aX8_wished aX8_far aX8_queue m_divided aX8_divisors aX8_least m_sumUp m_sumDown Q) := by
  refine ct_of (by decide +kernel) (Nat.le_of_ble_eq_true rfl) (fun X hl hDD hcI hcJ hzt hR hF hnm g => ?_)
  subst hl; subst hDD; subst hcI; subst hcJ; subst hzt
  show Wat X 0 0 0 [(0, .ref hX8), (1, .long (i64 l1)), (3, .long (i64 l3)), (5, .int (i32 l5))] [] [(hX8, .inr (7, [.ref aX8_ups, .ref aX8_downs, .int (i32 m_many), .ref aX8_row, .int (i32 m_isSpent), .int (i32 m_found), .ref aX8_sumMany, .ref aX8_sumShares, .ref aX8_sumSet, .ref aX8_taken, .ref aX8_restUp, .ref aX8_restDown, .int (i32 m_fewest), .int (i32 m_wishes), .ref aX8_wished, .ref aX8_far, .ref aX8_queue, .int (i32 m_divided), .ref aX8_divisors, .ref aX8_least, .long (i64 m_pairOne), .long (i64 m_pairTwo), .long (i64 m_sumUp), .long (i64 m_sumDown)]))]
  replace g : Gd X cX8_findPairs RX8 (some .int) 10 := g
  rw [wp_X8_findPairs] at h
  refine q_iconst g (0) dX8_findPairs_0 ?_
  refine q_istore (lv' := [(6, .int (i32 0)), (0, .ref hX8), (1, .long (i64 l1)), (3, .long (i64 l3)), (5, .int (i32 l5))]) g 6   (by decide) rfl dX8_findPairs_1 ?_
  refine q_lconst g 1 1 rfl dX8_findPairs_3 ?_
  refine q_lstore (lv' := [(7, .long (i64 1)), (6, .int (i32 0)), (0, .ref hX8), (1, .long (i64 l1)), (3, .long (i64 l3)), (5, .int (i32 l5))]) g 7   (by decide) rfl dX8_findPairs_4 ?_
  refine q_lv (lv' := [(0, .ref hX8), (1, .long (i64 l1)), (3, .long (i64 l3)), (5, .int (i32 l5)), (6, .int (i32 0)), (7, .long (i64 1))]) [2, 3, 4, 5, 1, 0] rfl ?_
  obtain ⟨n0, h⟩ := h
  exact s_X8_findPairs_6 g hR hX8 aX8_ups aX8_downs m_many aX8_row m_isSpent m_found aX8_sumMany aX8_sumShares aX8_sumSet aX8_taken aX8_restUp aX8_restDown m_fewest m_wishes aX8_wished aX8_far aX8_queue m_divided aX8_divisors aX8_least m_sumUp m_sumDown Q hF n0 m_pairOne m_pairTwo l1 l3 l5 0 1 r_m_pairOne r_m_pairTwo r_l1 r_l3 r_l5 (r32_lit _ (by decide)) (r64_lit _ (by decide)) h
theorem dX8_note_0 : decode cX8_note 0 = .ok (.lconst 0, 1) := by decide +kernel
theorem dX8_note_1 : decode cX8_note 1 = .ok (.lstore_n 2, 1) := by decide +kernel
theorem dX8_note_2 : decode cX8_note 2 = .ok (.iconst 0, 1) := by decide +kernel
theorem dX8_note_3 : decode cX8_note 3 = .ok (.istore 4, 2) := by decide +kernel
theorem dX8_note_5 : decode cX8_note 5 = .ok (.iload 4, 2) := by decide +kernel
theorem dX8_note_7 : decode cX8_note 7 = .ok (.iload_n 1, 1) := by decide +kernel
theorem dX8_note_8 : decode cX8_note 8 = .ok (.if_icmp .ge 43, 3) := by decide +kernel
theorem dX8_note_11 : decode cX8_note 11 = .ok (.aload_n 0, 1) := by decide +kernel
theorem dX8_note_12 : decode cX8_note 12 = .ok (.getfield 27, 3) := by decide +kernel
theorem dX8_note_15 : decode cX8_note 15 = .ok (.bipush 6, 2) := by decide +kernel
theorem dX8_note_17 : decode cX8_note 17 = .ok (.aload_n 0, 1) := by decide +kernel
theorem dX8_note_18 : decode cX8_note 18 = .ok (.getfield 20, 3) := by decide +kernel
theorem dX8_note_21 : decode cX8_note 21 = .ok (.imul, 1) := by decide +kernel
theorem dX8_note_22 : decode cX8_note 22 = .ok (.iload 4, 2) := by decide +kernel
theorem dX8_note_24 : decode cX8_note 24 = .ok (.iadd, 1) := by decide +kernel
theorem dX8_note_25 : decode cX8_note 25 = .ok (.aload_n 0, 1) := by decide +kernel
theorem dX8_note_26 : decode cX8_note 26 = .ok (.getfield 33, 3) := by decide +kernel
theorem dX8_note_29 : decode cX8_note 29 = .ok (.iload 4, 2) := by decide +kernel
theorem dX8_note_31 : decode cX8_note 31 = .ok (.iaload, 1) := by decide +kernel
theorem dX8_note_32 : decode cX8_note 32 = .ok (.iastore, 1) := by decide +kernel
theorem dX8_note_33 : decode cX8_note 33 = .ok (.lload_n 2, 1) := by decide +kernel
theorem dX8_note_34 : decode cX8_note 34 = .ok (.lconst 1, 1) := by decide +kernel
theorem dX8_note_35 : decode cX8_note 35 = .ok (.aload_n 0, 1) := by decide +kernel
theorem dX8_note_36 : decode cX8_note 36 = .ok (.getfield 33, 3) := by decide +kernel
theorem dX8_note_39 : decode cX8_note 39 = .ok (.iload 4, 2) := by decide +kernel
theorem dX8_note_41 : decode cX8_note 41 = .ok (.iaload, 1) := by decide +kernel
theorem dX8_note_42 : decode cX8_note 42 = .ok (.lshl, 1) := by decide +kernel
theorem dX8_note_43 : decode cX8_note 43 = .ok (.lor, 1) := by decide +kernel
theorem dX8_note_44 : decode cX8_note 44 = .ok (.lstore_n 2, 1) := by decide +kernel
theorem dX8_note_45 : decode cX8_note 45 = .ok (.iinc 4 1, 3) := by decide +kernel
theorem dX8_note_48 : decode cX8_note 48 = .ok (.goto (-43), 3) := by decide +kernel
theorem dX8_note_51 : decode cX8_note 51 = .ok (.aload_n 0, 1) := by decide +kernel
theorem dX8_note_52 : decode cX8_note 52 = .ok (.getfield 24, 3) := by decide +kernel
theorem dX8_note_55 : decode cX8_note 55 = .ok (.aload_n 0, 1) := by decide +kernel
theorem dX8_note_56 : decode cX8_note 56 = .ok (.getfield 20, 3) := by decide +kernel
theorem dX8_note_59 : decode cX8_note 59 = .ok (.iload_n 1, 1) := by decide +kernel
theorem dX8_note_60 : decode cX8_note 60 = .ok (.iastore, 1) := by decide +kernel
theorem dX8_note_61 : decode cX8_note 61 = .ok (.aload_n 0, 1) := by decide +kernel
theorem dX8_note_62 : decode cX8_note 62 = .ok (.getfield 30, 3) := by decide +kernel
theorem dX8_note_65 : decode cX8_note 65 = .ok (.aload_n 0, 1) := by decide +kernel
theorem dX8_note_66 : decode cX8_note 66 = .ok (.getfield 20, 3) := by decide +kernel
theorem dX8_note_69 : decode cX8_note 69 = .ok (.lload_n 2, 1) := by decide +kernel
theorem dX8_note_70 : decode cX8_note 70 = .ok (.lastore, 1) := by decide +kernel
theorem dX8_note_71 : decode cX8_note 71 = .ok (.return_, 1) := by decide +kernel
abbrev po_X8_note (cI cJ : ClassId) (hX8 : Nat) (aX8_ups : Nat) (aX8_downs : Nat) (m_many : Int) (aX8_row : Nat) (m_isSpent : Int) (m_found : Int) (aX8_sumMany : Nat) (aX8_sumShares : Nat) (aX8_sumSet : Nat) (aX8_taken : Nat) (aX8_restUp : Nat) (aX8_restDown : Nat) (m_fewest : Int) (m_wishes : Int) (aX8_wished : Nat) (aX8_far : Nat) (aX8_queue : Nat) (m_divided : Int) (aX8_divisors : Nat) (aX8_least : Nat) (m_pairOne : Int) (m_pairTwo : Int) (m_sumUp : Int) (m_sumDown : Int) (m_taken : Int → Int) (Q : (Int → Int) → (Int → Int) → (Int → Int) → Prop) : Option Value → va_W → Prop := fun rv w1 => ∃ (m_sumMany : Int → Int) (m_sumShares : Int → Int) (m_sumSet : Int → Int), rv = none ∧ w1 = [(hX8, .inr (7, [.ref aX8_ups, .ref aX8_downs, .int (i32 m_many), .ref aX8_row, .int (i32 m_isSpent), .int (i32 m_found), .ref aX8_sumMany, .ref aX8_sumShares, .ref aX8_sumSet, .ref aX8_taken, .ref aX8_restUp, .ref aX8_restDown, .int (i32 m_fewest), .int (i32 m_wishes), .ref aX8_wished, .ref aX8_far, .ref aX8_queue, .int (i32 m_divided), .ref aX8_divisors, .ref aX8_least, .long (i64 m_pairOne), .long (i64 m_pairTwo), .long (i64 m_sumUp), .long (i64 m_sumDown)])), (aX8_sumMany, aI cI 2000 m_sumMany), (aX8_sumShares, aI cI 12000 m_sumShares), (aX8_sumSet, aL cJ 2000 m_sumSet), (aX8_taken, aI cI 7 m_taken)] ∧ rr32 m_sumMany ∧ rr32 m_sumShares ∧ rr64 m_sumSet ∧ Q m_sumMany m_sumShares m_sumSet
def wp_X8_note_5 (Q : (Int → Int) → (Int → Int) → (Int → Int) → Prop) (m_found : Int) (m_taken : Int → Int) : Nat → (Int → Int) → (Int → Int) → (Int → Int) → Int → Int → Int → Prop
  | 0, _, _, _, _, _, _ => False
  | n + 1, m_sumMany, m_sumShares, m_sumSet, l1, l2, l4 => ((l1 ≤ l4 → (0 ≤ m_found ∧ m_found < 2000 ∧ 0 ≤ m_found ∧ m_found < 2000 ∧ Q (ups m_sumMany m_found l1) m_sumShares (ups m_sumSet m_found l2))) ∧
  (¬ (l1 ≤ l4) → (r32 (6 * m_found) ∧ r32 ((6 * m_found) + l4) ∧ 0 ≤ l4 ∧ l4 < 7 ∧ ∀ x32 : Int, x32 = (m_taken l4) → 0 ≤ ((6 * m_found) + l4) ∧ ((6 * m_found) + l4) < 12000 ∧ 0 ≤ l4 ∧ l4 < 7 ∧ ∀ x44 : Int, x44 = (lor64 l2 (shl64 1 (m_taken l4))) → r32 (l4 + 1) ∧ wp_X8_note_5 Q m_found m_taken n m_sumMany (ups m_sumShares ((6 * m_found) + l4) x32) m_sumSet l1 x44 (l4 + 1))))
set_option maxHeartbeats 4000000 in
set_option maxRecDepth 100000 in
theorem s_X8_note_5 {X : Cx} (g : Gd X cX8_note RX8 none 5) (hR : X.R = rmL 1 0 0) (hX8 : Nat) (aX8_ups : Nat) (aX8_downs : Nat) (m_many : Int) (aX8_row : Nat) (m_isSpent : Int) (aX8_sumMany : Nat) (aX8_sumShares : Nat) (aX8_sumSet : Nat) (aX8_taken : Nat) (aX8_restUp : Nat) (aX8_restDown : Nat) (m_fewest : Int) (m_wishes : Int) (aX8_wished : Nat) (aX8_far : Nat) (aX8_queue : Nat) (m_divided : Int) (aX8_divisors : Nat) (aX8_least : Nat) (m_pairOne : Int) (m_pairTwo : Int) (m_sumUp : Int) (m_sumDown : Int) (m_found : Int) (m_taken : Int → Int) (r_m_found : r32 m_found) (r_m_taken : rr32 m_taken) (Q : (Int → Int) → (Int → Int) → (Int → Int) → Prop) (hF : FQ X 0 0 (po_X8_note X.cI X.cJ hX8 aX8_ups aX8_downs m_many aX8_row m_isSpent m_found aX8_sumMany aX8_sumShares aX8_sumSet aX8_taken aX8_restUp aX8_restDown m_fewest m_wishes aX8_wished aX8_far aX8_queue m_divided aX8_divisors aX8_least m_pairOne m_pairTwo m_sumUp m_sumDown m_taken Q)) : ∀ (n : Nat) (m_sumMany : Int → Int) (m_sumShares : Int → Int) (m_sumSet : Int → Int) (l1 : Int) (l2 : Int) (l4 : Int), rr32 m_sumMany → rr32 m_sumShares → rr64 m_sumSet → r32 l1 → r64 l2 → r32 l4 → wp_X8_note_5 Q m_found m_taken n m_sumMany m_sumShares m_sumSet l1 l2 l4 → Wat X 0 0 5 [(0, .ref hX8), (1, .int (i32 l1)), (2, .long (i64 l2)), (4, .int (i32 l4))] [] [(hX8, .inr (7, [.ref aX8_ups, .ref aX8_downs, .int (i32 m_many), .ref aX8_row, .int (i32 m_isSpent), .int (i32 m_found), .ref aX8_sumMany, .ref aX8_sumShares, .ref aX8_sumSet, .ref aX8_taken, .ref aX8_restUp, .ref aX8_restDown, .int (i32 m_fewest), .int (i32 m_wishes), .ref aX8_wished, .ref aX8_far, .ref aX8_queue, .int (i32 m_divided), .ref aX8_divisors, .ref aX8_least, .long (i64 m_pairOne), .long (i64 m_pairTwo), .long (i64 m_sumUp), .long (i64 m_sumDown)])), (aX8_sumMany, aI X.cI 2000 m_sumMany), (aX8_sumShares, aI X.cI 12000 m_sumShares), (aX8_sumSet, aL X.cJ 2000 m_sumSet), (aX8_taken, aI X.cI 7 m_taken)] := by
  intro n
  induction n with
  | zero => intro m_sumMany m_sumShares m_sumSet l1 l2 l4 r_m_sumMany r_m_sumShares r_m_sumSet r_l1 r_l2 r_l4 h; exact False.elim h
  | succ n ih =>
    intro m_sumMany m_sumShares m_sumSet l1 l2 l4 r_m_sumMany r_m_sumShares r_m_sumSet r_l1 r_l2 r_l4 h
    rw [wp_X8_note_5] at h
    refine q_iload g 4 3 rfl dX8_note_5 ?_
    refine q_iload_n g 1 1 rfl dX8_note_7 ?_
    refine q_icmp_ge g (43) 51 r_l4 r_l1 (by decide) dX8_note_8 (fun b8 => ?_) (fun b8 => ?_)
    · replace h := h.1 b8
      refine q_aload_n g 0 0 rfl dX8_note_51 ?_
      refine q_get (C := RX8) (T := TX8) (N := 24) g 24 inX8 0 6 rfl rfl (by decide) wF_X8_24 rfl dX8_note_52 ?_
      refine q_aload_n g 0 0 rfl dX8_note_55 ?_
      refine q_get (C := RX8) (T := TX8) (N := 24) g 20 inX8 0 5 rfl rfl (by decide) wF_X8_20 rfl dX8_note_56 ?_
      refine q_iload_n g 1 1 rfl dX8_note_59 ?_
      obtain ⟨c60, h⟩ := h
      obtain ⟨e60, h⟩ := h
      refine q_iast (ws' := [(hX8, .inr (7, [.ref aX8_ups, .ref aX8_downs, .int (i32 m_many), .ref aX8_row, .int (i32 m_isSpent), .int (i32 m_found), .ref aX8_sumMany, .ref aX8_sumShares, .ref aX8_sumSet, .ref aX8_taken, .ref aX8_restUp, .ref aX8_restDown, .int (i32 m_fewest), .int (i32 m_wishes), .ref aX8_wished, .ref aX8_far, .ref aX8_queue, .int (i32 m_divided), .ref aX8_divisors, .ref aX8_least, .long (i64 m_pairOne), .long (i64 m_pairTwo), .long (i64 m_sumUp), .long (i64 m_sumDown)])), (aX8_sumMany, aI X.cI 2000 (ups m_sumMany m_found l1)), (aX8_sumShares, aI X.cI 12000 m_sumShares), (aX8_sumSet, aL X.cJ 2000 m_sumSet), (aX8_taken, aI X.cI 7 m_taken)]) g 1 rfl c60 e60 (by decide) rfl dX8_note_60 ?_
      refine q_aload_n g 0 0 rfl dX8_note_61 ?_
      refine q_get (C := RX8) (T := TX8) (N := 24) g 30 inX8 0 8 rfl rfl (by decide) wF_X8_30 rfl dX8_note_62 ?_
      refine q_aload_n g 0 0 rfl dX8_note_65 ?_
      refine q_get (C := RX8) (T := TX8) (N := 24) g 20 inX8 0 5 rfl rfl (by decide) wF_X8_20 rfl dX8_note_66 ?_
      refine q_lload_n g 2 2 rfl dX8_note_69 ?_
      obtain ⟨c70, h⟩ := h
      obtain ⟨e70, h⟩ := h
      refine q_last (ws' := [(hX8, .inr (7, [.ref aX8_ups, .ref aX8_downs, .int (i32 m_many), .ref aX8_row, .int (i32 m_isSpent), .int (i32 m_found), .ref aX8_sumMany, .ref aX8_sumShares, .ref aX8_sumSet, .ref aX8_taken, .ref aX8_restUp, .ref aX8_restDown, .int (i32 m_fewest), .int (i32 m_wishes), .ref aX8_wished, .ref aX8_far, .ref aX8_queue, .int (i32 m_divided), .ref aX8_divisors, .ref aX8_least, .long (i64 m_pairOne), .long (i64 m_pairTwo), .long (i64 m_sumUp), .long (i64 m_sumDown)])), (aX8_sumMany, aI X.cI 2000 (ups m_sumMany m_found l1)), (aX8_sumShares, aI X.cI 12000 m_sumShares), (aX8_sumSet, aL X.cJ 2000 (ups m_sumSet m_found l2)), (aX8_taken, aI X.cI 7 m_taken)]) g 3 rfl c70 e70 (by decide) rfl dX8_note_70 ?_
      exact q_vret g hF ⟨(ups m_sumMany m_found l1), m_sumShares, (ups m_sumSet m_found l2), rfl, rfl, (rr32_u r_m_sumMany r_l1), r_m_sumShares, (rr64_u r_m_sumSet r_l2), h⟩ dX8_note_71
    replace h := h.2 b8
    refine q_aload_n g 0 0 rfl dX8_note_11 ?_
    refine q_get (C := RX8) (T := TX8) (N := 24) g 27 inX8 0 7 rfl rfl (by decide) wF_X8_27 rfl dX8_note_12 ?_
    refine q_bipush g (6) (by decide) (by decide) dX8_note_15 ?_
    refine q_aload_n g 0 0 rfl dX8_note_17 ?_
    refine q_get (C := RX8) (T := TX8) (N := 24) g 20 inX8 0 5 rfl rfl (by decide) wF_X8_20 rfl dX8_note_18 ?_
    obtain ⟨c21, h⟩ := h
    refine q_imul g dX8_note_21 ?_
    refine q_iload g 4 3 rfl dX8_note_22 ?_
    obtain ⟨c24, h⟩ := h
    refine q_iadd g dX8_note_24 ?_
    refine q_aload_n g 0 0 rfl dX8_note_25 ?_
    refine q_get (C := RX8) (T := TX8) (N := 24) g 33 inX8 0 9 rfl rfl (by decide) wF_X8_33 rfl dX8_note_26 ?_
    refine q_iload g 4 3 rfl dX8_note_29 ?_
    obtain ⟨c31, h⟩ := h
    obtain ⟨e31, h⟩ := h
    refine q_iald g 4 rfl c31 e31 (by decide) dX8_note_31 ?_
    refine q_topi (r_m_taken _) (fun x32 ex32 rx32 => ?_)
    replace h := h x32 ex32
    obtain ⟨c32, h⟩ := h
    obtain ⟨e32, h⟩ := h
    refine q_iast (ws' := [(hX8, .inr (7, [.ref aX8_ups, .ref aX8_downs, .int (i32 m_many), .ref aX8_row, .int (i32 m_isSpent), .int (i32 m_found), .ref aX8_sumMany, .ref aX8_sumShares, .ref aX8_sumSet, .ref aX8_taken, .ref aX8_restUp, .ref aX8_restDown, .int (i32 m_fewest), .int (i32 m_wishes), .ref aX8_wished, .ref aX8_far, .ref aX8_queue, .int (i32 m_divided), .ref aX8_divisors, .ref aX8_least, .long (i64 m_pairOne), .long (i64 m_pairTwo), .long (i64 m_sumUp), .long (i64 m_sumDown)])), (aX8_sumMany, aI X.cI 2000 m_sumMany), (aX8_sumShares, aI X.cI 12000 (ups m_sumShares ((6 * m_found) + l4) x32)), (aX8_sumSet, aL X.cJ 2000 m_sumSet), (aX8_taken, aI X.cI 7 m_taken)]) g 2 rfl c32 e32 (by decide) rfl dX8_note_32 ?_
    refine q_lload_n g 2 2 rfl dX8_note_33 ?_
    refine q_lconst g 1 1 rfl dX8_note_34 ?_
    refine q_aload_n g 0 0 rfl dX8_note_35 ?_
    refine q_get (C := RX8) (T := TX8) (N := 24) g 33 inX8 0 9 rfl rfl (by decide) wF_X8_33 rfl dX8_note_36 ?_
    refine q_iload g 4 3 rfl dX8_note_39 ?_
    obtain ⟨c41, h⟩ := h
    obtain ⟨e41, h⟩ := h
    refine q_iald g 4 rfl c41 e41 (by decide) dX8_note_41 ?_
    refine q_lshl g dX8_note_42 ?_
    refine q_lor g dX8_note_43 ?_
    refine q_topl (r_lor64 _ _) (fun x44 ex44 rx44 => ?_)
    replace h := h x44 ex44
    refine q_lstore_n (lv' := [(2, .long (i64 x44)), (0, .ref hX8), (1, .int (i32 l1)), (4, .int (i32 l4))]) g 2 2 rfl (by decide) rfl dX8_note_44 ?_
    obtain ⟨c45, h⟩ := h
    refine q_iinc (lv' := [(4, .int (i32 (l4 + 1))), (2, .long (i64 x44)), (0, .ref hX8), (1, .int (i32 l1))]) g 4 3 1 (by decide) rfl rfl dX8_note_45 ?_
    refine q_goto g (-43) 5 (by decide) dX8_note_48 ?_
    refine q_lv (lv' := [(0, .ref hX8), (1, .int (i32 l1)), (2, .long (i64 x44)), (4, .int (i32 (l4 + 1)))]) [2, 3, 1, 0] rfl ?_
    exact ih m_sumMany (ups m_sumShares ((6 * m_found) + l4) x32) m_sumSet l1 x44 (l4 + 1) r_m_sumMany (rr32_u r_m_sumShares rx32) r_m_sumSet r_l1 rx44 c45 h
def wp_X8_note (Q : (Int → Int) → (Int → Int) → (Int → Int) → Prop) (m_found : Int) (m_sumMany : Int → Int) (m_sumShares : Int → Int) (m_sumSet : Int → Int) (m_taken : Int → Int) (l1 : Int) : Prop := (∃ n0 : Nat, wp_X8_note_5 Q m_found m_taken n0 m_sumMany m_sumShares m_sumSet l1 0 0)
set_option maxHeartbeats 4000000 in
set_option maxRecDepth 100000 in
theorem c_X8_note (l : Launch) (D : va_G) (cI cJ : ClassId) (zt : Nat) (hX8 : Nat) (aX8_ups : Nat) (aX8_downs : Nat) (m_many : Int) (aX8_row : Nat) (m_isSpent : Int) (m_found : Int) (aX8_sumMany : Nat) (aX8_sumShares : Nat) (aX8_sumSet : Nat) (aX8_taken : Nat) (aX8_restUp : Nat) (aX8_restDown : Nat) (m_fewest : Int) (m_wishes : Int) (aX8_wished : Nat) (aX8_far : Nat) (aX8_queue : Nat) (m_divided : Int) (aX8_divisors : Nat) (aX8_least : Nat) (m_pairOne : Int) (m_pairTwo : Int) (m_sumUp : Int) (m_sumDown : Int) (m_sumMany : Int → Int) (m_sumShares : Int → Int) (m_sumSet : Int → Int) (m_taken : Int → Int) (l1 : Int) (Q : (Int → Int) → (Int → Int) → (Int → Int) → Prop) (r_m_found : r32 m_found) (r_m_sumMany : rr32 m_sumMany) (r_m_sumShares : rr32 m_sumShares) (r_m_sumSet : rr64 m_sumSet) (r_m_taken : rr32 m_taken) (r_l1 : r32 l1) (h : wp_X8_note Q m_found m_sumMany m_sumShares m_sumSet m_taken l1) : Ct l D cI cJ zt yX8_note cX8_note 5 none 1 0 0 [.ref hX8, .int (i32 l1)] [(hX8, .inr (7, [.ref aX8_ups, .ref aX8_downs, .int (i32 m_many), .ref aX8_row, .int (i32 m_isSpent), .int (i32 m_found), .ref aX8_sumMany, .ref aX8_sumShares, .ref aX8_sumSet, .ref aX8_taken, .ref aX8_restUp, .ref aX8_restDown, .int (i32 m_fewest), .int (i32 m_wishes), .ref aX8_wished, .ref aX8_far, .ref aX8_queue, .int (i32 m_divided), .ref aX8_divisors, .ref aX8_least, .long (i64 m_pairOne), .long (i64 m_pairTwo), .long (i64 m_sumUp), .long (i64 m_sumDown)])), (aX8_sumMany, aI cI 2000 m_sumMany), (aX8_sumShares, aI cI 12000 m_sumShares), (aX8_sumSet, aL cJ 2000 m_sumSet), (aX8_taken, aI cI 7 m_taken)] (po_X8_note cI cJ hX8 aX8_ups aX8_downs m_many aX8_row m_isSpent m_found aX8_sumMany aX8_sumShares aX8_sumSet aX8_taken aX8_restUp aX8_restDown m_fewest m_wishes aX8_wished aX8_far aX8_queue m_divided aX8_divisors aX8_least m_pairOne m_pairTwo m_sumUp m_sumDown m_taken Q) := by
  refine ct_of (by decide +kernel) (Nat.le_of_ble_eq_true rfl) (fun X hl hDD hcI hcJ hzt hR hF hnm g => ?_)
  subst hl; subst hDD; subst hcI; subst hcJ; subst hzt
  show Wat X 0 0 0 [(0, .ref hX8), (1, .int (i32 l1))] [] [(hX8, .inr (7, [.ref aX8_ups, .ref aX8_downs, .int (i32 m_many), .ref aX8_row, .int (i32 m_isSpent), .int (i32 m_found), .ref aX8_sumMany, .ref aX8_sumShares, .ref aX8_sumSet, .ref aX8_taken, .ref aX8_restUp, .ref aX8_restDown, .int (i32 m_fewest), .int (i32 m_wishes), .ref aX8_wished, .ref aX8_far, .ref aX8_queue, .int (i32 m_divided), .ref aX8_divisors, .ref aX8_least, .long (i64 m_pairOne), .long (i64 m_pairTwo), .long (i64 m_sumUp), .long (i64 m_sumDown)])), (aX8_sumMany, aI X.cI 2000 m_sumMany), (aX8_sumShares, aI X.cI 12000 m_sumShares), (aX8_sumSet, aL X.cJ 2000 m_sumSet), (aX8_taken, aI X.cI 7 m_taken)]
  replace g : Gd X cX8_note RX8 none 5 := g
  rw [wp_X8_note] at h
  refine q_lconst g 0 0 rfl dX8_note_0 ?_
  refine q_lstore_n (lv' := [(2, .long (i64 0)), (0, .ref hX8), (1, .int (i32 l1))]) g 2 2 rfl (by decide) rfl dX8_note_1 ?_
  refine q_iconst g (0) dX8_note_2 ?_
  refine q_istore (lv' := [(4, .int (i32 0)), (2, .long (i64 0)), (0, .ref hX8), (1, .int (i32 l1))]) g 4   (by decide) rfl dX8_note_3 ?_
  refine q_lv (lv' := [(0, .ref hX8), (1, .int (i32 l1)), (2, .long (i64 0)), (4, .int (i32 0))]) [2, 3, 1, 0] rfl ?_
  obtain ⟨n0, h⟩ := h
  exact s_X8_note_5 g hR hX8 aX8_ups aX8_downs m_many aX8_row m_isSpent aX8_sumMany aX8_sumShares aX8_sumSet aX8_taken aX8_restUp aX8_restDown m_fewest m_wishes aX8_wished aX8_far aX8_queue m_divided aX8_divisors aX8_least m_pairOne m_pairTwo m_sumUp m_sumDown m_found m_taken r_m_found r_m_taken Q hF n0 m_sumMany m_sumShares m_sumSet l1 0 0 r_m_sumMany r_m_sumShares r_m_sumSet r_l1 (r64_lit _ (by decide)) (r32_lit _ (by decide)) h
theorem dX8_gcd_0 : decode cX8_gcd 0 = .ok (.lload_n 0, 1) := by decide +kernel
theorem dX8_gcd_1 : decode cX8_gcd 1 = .ok (.lstore 4, 2) := by decide +kernel
theorem dX8_gcd_3 : decode cX8_gcd 3 = .ok (.lload_n 2, 1) := by decide +kernel
theorem dX8_gcd_4 : decode cX8_gcd 4 = .ok (.lstore 6, 2) := by decide +kernel
theorem dX8_gcd_6 : decode cX8_gcd 6 = .ok (.lload 6, 2) := by decide +kernel
theorem dX8_gcd_8 : decode cX8_gcd 8 = .ok (.lconst 0, 1) := by decide +kernel
theorem dX8_gcd_9 : decode cX8_gcd 9 = .ok (.lcmp, 1) := by decide +kernel
theorem dX8_gcd_10 : decode cX8_gcd 10 = .ok (.ifCond .eq 21, 3) := by decide +kernel
theorem dX8_gcd_13 : decode cX8_gcd 13 = .ok (.lload 4, 2) := by decide +kernel
theorem dX8_gcd_15 : decode cX8_gcd 15 = .ok (.lload 6, 2) := by decide +kernel
theorem dX8_gcd_17 : decode cX8_gcd 17 = .ok (.lrem, 1) := by decide +kernel
theorem dX8_gcd_18 : decode cX8_gcd 18 = .ok (.lstore 8, 2) := by decide +kernel
theorem dX8_gcd_20 : decode cX8_gcd 20 = .ok (.lload 6, 2) := by decide +kernel
theorem dX8_gcd_22 : decode cX8_gcd 22 = .ok (.lstore 4, 2) := by decide +kernel
theorem dX8_gcd_24 : decode cX8_gcd 24 = .ok (.lload 8, 2) := by decide +kernel
theorem dX8_gcd_26 : decode cX8_gcd 26 = .ok (.lstore 6, 2) := by decide +kernel
theorem dX8_gcd_28 : decode cX8_gcd 28 = .ok (.goto (-22), 3) := by decide +kernel
theorem dX8_gcd_31 : decode cX8_gcd 31 = .ok (.lload 4, 2) := by decide +kernel
theorem dX8_gcd_33 : decode cX8_gcd 33 = .ok (.lreturn, 1) := by decide +kernel
abbrev po_X8_gcd (cI cJ : ClassId) (Q : Int → Prop) : Option Value → va_W → Prop := fun rv w1 => ∃ (r0 : Int), rv = some (.long (i64 r0)) ∧ w1 = [] ∧ r64 r0 ∧ Q r0
def wp_X8_gcd_6 (Q : Int → Prop) : Nat → Int → Int → Prop
  | 0, _, _ => False
  | n + 1, l4, l6 => ((l6 = 0 → Q l4) ∧
  (¬ (l6 = 0) → (0 < l6 ∧ ∀ x18 : Int, x18 = (l4.tmod l6) → wp_X8_gcd_6 Q n l6 x18)))
set_option maxHeartbeats 4000000 in
set_option maxRecDepth 100000 in
theorem s_X8_gcd_6 {X : Cx} (g : Gd X cX8_gcd RX8 (some .long) 10) (hR : X.R = rmL 1 0 0) (Q : Int → Prop) (hF : FQ X 0 0 (po_X8_gcd X.cI X.cJ Q)) : ∀ (n : Nat) (l4 : Int) (l6 : Int), r64 l4 → r64 l6 → wp_X8_gcd_6 Q n l4 l6 → Wat X 0 0 6 [(4, .long (i64 l4)), (6, .long (i64 l6))] [] [] := by
  intro n
  induction n with
  | zero => intro l4 l6 r_l4 r_l6 h; exact False.elim h
  | succ n ih =>
    intro l4 l6 r_l4 r_l6 h
    rw [wp_X8_gcd_6] at h
    refine q_lload g 6 1 rfl dX8_gcd_6 ?_
    refine q_lconst g 0 0 rfl dX8_gcd_8 ?_
    refine q_lcmp_eq g (21) 31 r_l6 (r64_lit _ (by decide)) (by decide) dX8_gcd_9 dX8_gcd_10 (fun b9 => ?_) (fun b9 => ?_)
    · replace h := h.1 b9
      refine q_lload g 4 0 rfl dX8_gcd_31 ?_
      exact q_lret g hF ⟨l4, rfl, rfl, r_l4, h⟩ dX8_gcd_33
    replace h := h.2 b9
    refine q_lload g 4 0 rfl dX8_gcd_13 ?_
    refine q_lload g 6 1 rfl dX8_gcd_15 ?_
    obtain ⟨c17, h⟩ := h
    refine q_lrem g r_l4 r_l6 (ne_of_pos c17) dX8_gcd_17 ?_
    refine q_topl (r64_tmod r_l4 r_l6 (ne_of_pos c17)) (fun x18 ex18 rx18 => ?_)
    replace h := h x18 ex18
    refine q_lstore (lv' := [(8, .long (i64 x18)), (4, .long (i64 l4)), (6, .long (i64 l6))]) g 8   (by decide) rfl dX8_gcd_18 ?_
    refine q_lload g 6 2 rfl dX8_gcd_20 ?_
    refine q_lstore (lv' := [(4, .long (i64 l6)), (8, .long (i64 x18)), (6, .long (i64 l6))]) g 4   (by decide) rfl dX8_gcd_22 ?_
    refine q_lload g 8 1 rfl dX8_gcd_24 ?_
    refine q_lstore (lv' := [(6, .long (i64 x18)), (4, .long (i64 l6)), (8, .long (i64 x18))]) g 6   (by decide) rfl dX8_gcd_26 ?_
    refine q_goto g (-22) 6 (by decide) dX8_gcd_28 ?_
    refine q_lv (lv' := [(4, .long (i64 l6)), (6, .long (i64 x18))]) [1, 0] rfl ?_
    exact ih l6 x18 r_l6 rx18 h
def wp_X8_gcd (Q : Int → Prop) (l0 : Int) (l2 : Int) : Prop := (∃ n0 : Nat, wp_X8_gcd_6 Q n0 l0 l2)
set_option maxHeartbeats 4000000 in
set_option maxRecDepth 100000 in
theorem c_X8_gcd (l : Launch) (D : va_G) (cI cJ : ClassId) (zt : Nat) (l0 : Int) (l2 : Int) (Q : Int → Prop) (r_l0 : r64 l0) (r_l2 : r64 l2) (h : wp_X8_gcd Q l0 l2) : Ct l D cI cJ zt yX8_gcd cX8_gcd 10 (some .long) 1 0 0 [.long (i64 l0), .long (i64 l2)] [] (po_X8_gcd cI cJ Q) := by
  refine ct_of (by decide +kernel) (Nat.le_of_ble_eq_true rfl) (fun X hl hDD hcI hcJ hzt hR hF hnm g => ?_)
  subst hl; subst hDD; subst hcI; subst hcJ; subst hzt
  show Wat X 0 0 0 [(0, .long (i64 l0)), (2, .long (i64 l2))] [] []
  replace g : Gd X cX8_gcd RX8 (some .long) 10 := g
  rw [wp_X8_gcd] at h
  refine q_lload_n g 0 0 rfl dX8_gcd_0 ?_
  refine q_lstore (lv' := [(4, .long (i64 l0)), (0, .long (i64 l0)), (2, .long (i64 l2))]) g 4   (by decide) rfl dX8_gcd_1 ?_
  refine q_lload_n g 2 2 rfl dX8_gcd_3 ?_
  refine q_lstore (lv' := [(6, .long (i64 l2)), (4, .long (i64 l0)), (0, .long (i64 l0)), (2, .long (i64 l2))]) g 6   (by decide) rfl dX8_gcd_4 ?_
  refine q_lv (lv' := [(4, .long (i64 l0)), (6, .long (i64 l2))]) [1, 0] rfl ?_
  obtain ⟨n0, h⟩ := h
  exact s_X8_gcd_6 g hR Q hF n0 l0 l2 r_l0 r_l2 h
theorem dX8_findSums_0 : decode cX8_findSums 0 = .ok (.iconst 0, 1) := by decide +kernel
theorem dX8_findSums_1 : decode cX8_findSums 1 = .ok (.istore 8, 2) := by decide +kernel
theorem dX8_findSums_3 : decode cX8_findSums 3 = .ok (.aload_n 0, 1) := by decide +kernel
theorem dX8_findSums_4 : decode cX8_findSums 4 = .ok (.bipush (-4), 2) := by decide +kernel
theorem dX8_findSums_6 : decode cX8_findSums 6 = .ok (.putfield 137, 3) := by decide +kernel
theorem dX8_findSums_9 : decode cX8_findSums 9 = .ok (.aload_n 0, 1) := by decide +kernel
theorem dX8_findSums_10 : decode cX8_findSums 10 = .ok (.getfield 36, 3) := by decide +kernel
theorem dX8_findSums_13 : decode cX8_findSums 13 = .ok (.iconst 0, 1) := by decide +kernel
theorem dX8_findSums_14 : decode cX8_findSums 14 = .ok (.lload_n 1, 1) := by decide +kernel
theorem dX8_findSums_15 : decode cX8_findSums 15 = .ok (.lastore, 1) := by decide +kernel
theorem dX8_findSums_16 : decode cX8_findSums 16 = .ok (.aload_n 0, 1) := by decide +kernel
theorem dX8_findSums_17 : decode cX8_findSums 17 = .ok (.getfield 39, 3) := by decide +kernel
theorem dX8_findSums_20 : decode cX8_findSums 20 = .ok (.iconst 0, 1) := by decide +kernel
theorem dX8_findSums_21 : decode cX8_findSums 21 = .ok (.lload_n 3, 1) := by decide +kernel
theorem dX8_findSums_22 : decode cX8_findSums 22 = .ok (.lastore, 1) := by decide +kernel
theorem dX8_findSums_23 : decode cX8_findSums 23 = .ok (.aload_n 0, 1) := by decide +kernel
theorem dX8_findSums_24 : decode cX8_findSums 24 = .ok (.getfield 33, 3) := by decide +kernel
theorem dX8_findSums_27 : decode cX8_findSums 27 = .ok (.iconst 0, 1) := by decide +kernel
theorem dX8_findSums_28 : decode cX8_findSums 28 = .ok (.iconst 1, 1) := by decide +kernel
theorem dX8_findSums_29 : decode cX8_findSums 29 = .ok (.iastore, 1) := by decide +kernel
theorem dX8_findSums_30 : decode cX8_findSums 30 = .ok (.iconst 0, 1) := by decide +kernel
theorem dX8_findSums_31 : decode cX8_findSums 31 = .ok (.istore 9, 2) := by decide +kernel
theorem dX8_findSums_33 : decode cX8_findSums 33 = .ok (.iconst 1, 1) := by decide +kernel
theorem dX8_findSums_34 : decode cX8_findSums 34 = .ok (.istore 10, 2) := by decide +kernel
theorem dX8_findSums_36 : decode cX8_findSums 36 = .ok (.iload 9, 2) := by decide +kernel
theorem dX8_findSums_38 : decode cX8_findSums 38 = .ok (.ifCond .lt 273, 3) := by decide +kernel
theorem dX8_findSums_41 : decode cX8_findSums 41 = .ok (.iload 10, 2) := by decide +kernel
theorem dX8_findSums_43 : decode cX8_findSums 43 = .ok (.ifCond .eq 268, 3) := by decide +kernel
theorem dX8_findSums_46 : decode cX8_findSums 46 = .ok (.aload_n 0, 1) := by decide +kernel
theorem dX8_findSums_47 : decode cX8_findSums 47 = .ok (.getfield 33, 3) := by decide +kernel
theorem dX8_findSums_50 : decode cX8_findSums 50 = .ok (.iload 9, 2) := by decide +kernel
theorem dX8_findSums_52 : decode cX8_findSums 52 = .ok (.dup2, 1) := by decide +kernel
theorem dX8_findSums_53 : decode cX8_findSums 53 = .ok (.iaload, 1) := by decide +kernel
theorem dX8_findSums_54 : decode cX8_findSums 54 = .ok (.iconst 1, 1) := by decide +kernel
theorem dX8_findSums_55 : decode cX8_findSums 55 = .ok (.iadd, 1) := by decide +kernel
theorem dX8_findSums_56 : decode cX8_findSums 56 = .ok (.iastore, 1) := by decide +kernel
theorem dX8_findSums_57 : decode cX8_findSums 57 = .ok (.aload_n 0, 1) := by decide +kernel
theorem dX8_findSums_58 : decode cX8_findSums 58 = .ok (.getfield 33, 3) := by decide +kernel
theorem dX8_findSums_61 : decode cX8_findSums 61 = .ok (.iload 9, 2) := by decide +kernel
theorem dX8_findSums_63 : decode cX8_findSums 63 = .ok (.iaload, 1) := by decide +kernel
theorem dX8_findSums_64 : decode cX8_findSums 64 = .ok (.istore 11, 2) := by decide +kernel
theorem dX8_findSums_66 : decode cX8_findSums 66 = .ok (.aload_n 0, 1) := by decide +kernel
theorem dX8_findSums_67 : decode cX8_findSums 67 = .ok (.getfield 36, 3) := by decide +kernel
theorem dX8_findSums_70 : decode cX8_findSums 70 = .ok (.iload 9, 2) := by decide +kernel
theorem dX8_findSums_72 : decode cX8_findSums 72 = .ok (.laload, 1) := by decide +kernel
theorem dX8_findSums_73 : decode cX8_findSums 73 = .ok (.lstore 12, 2) := by decide +kernel
theorem dX8_findSums_75 : decode cX8_findSums 75 = .ok (.aload_n 0, 1) := by decide +kernel
theorem dX8_findSums_76 : decode cX8_findSums 76 = .ok (.getfield 39, 3) := by decide +kernel
theorem dX8_findSums_79 : decode cX8_findSums 79 = .ok (.iload 9, 2) := by decide +kernel
theorem dX8_findSums_81 : decode cX8_findSums 81 = .ok (.laload, 1) := by decide +kernel
theorem dX8_findSums_82 : decode cX8_findSums 82 = .ok (.lstore 14, 2) := by decide +kernel
theorem dX8_findSums_84 : decode cX8_findSums 84 = .ok (.iload 11, 2) := by decide +kernel
theorem dX8_findSums_86 : decode cX8_findSums 86 = .ok (.iload 5, 2) := by decide +kernel
theorem dX8_findSums_88 : decode cX8_findSums 88 = .ok (.if_icmp .gt 26, 3) := by decide +kernel
theorem dX8_findSums_91 : decode cX8_findSums 91 = .ok (.lload 12, 2) := by decide +kernel
theorem dX8_findSums_93 : decode cX8_findSums 93 = .ok (.iload 11, 2) := by decide +kernel
theorem dX8_findSums_95 : decode cX8_findSums 95 = .ok (.i2l, 1) := by decide +kernel
theorem dX8_findSums_96 : decode cX8_findSums 96 = .ok (.lmul, 1) := by decide +kernel
theorem dX8_findSums_97 : decode cX8_findSums 97 = .ok (.lload 14, 2) := by decide +kernel
theorem dX8_findSums_99 : decode cX8_findSums 99 = .ok (.iload 6, 2) := by decide +kernel
theorem dX8_findSums_101 : decode cX8_findSums 101 = .ok (.iload 9, 2) := by decide +kernel
theorem dX8_findSums_103 : decode cX8_findSums 103 = .ok (.isub, 1) := by decide +kernel
theorem dX8_findSums_104 : decode cX8_findSums 104 = .ok (.i2l, 1) := by decide +kernel
theorem dX8_findSums_105 : decode cX8_findSums 105 = .ok (.lmul, 1) := by decide +kernel
theorem dX8_findSums_106 : decode cX8_findSums 106 = .ok (.lcmp, 1) := by decide +kernel
theorem dX8_findSums_107 : decode cX8_findSums 107 = .ok (.ifCond .gt 7, 3) := by decide +kernel
theorem dX8_findSums_110 : decode cX8_findSums 110 = .ok (.iconst 1, 1) := by decide +kernel
theorem dX8_findSums_111 : decode cX8_findSums 111 = .ok (.goto 4, 3) := by decide +kernel
theorem dX8_findSums_114 : decode cX8_findSums 114 = .ok (.iconst 0, 1) := by decide +kernel
theorem dX8_findSums_115 : decode cX8_findSums 115 = .ok (.istore 16, 2) := by decide +kernel
theorem dX8_findSums_117 : decode cX8_findSums 117 = .ok (.iload 16, 2) := by decide +kernel
theorem dX8_findSums_119 : decode cX8_findSums 119 = .ok (.ifCond .ne 9, 3) := by decide +kernel
theorem dX8_findSums_122 : decode cX8_findSums 122 = .ok (.iinc 9 (-1), 3) := by decide +kernel
theorem dX8_findSums_125 : decode cX8_findSums 125 = .ok (.goto 183, 3) := by decide +kernel
theorem dX8_findSums_128 : decode cX8_findSums 128 = .ok (.lload 12, 2) := by decide +kernel
theorem dX8_findSums_130 : decode cX8_findSums 130 = .ok (.iload 11, 2) := by decide +kernel
theorem dX8_findSums_132 : decode cX8_findSums 132 = .ok (.i2l, 1) := by decide +kernel
theorem dX8_findSums_133 : decode cX8_findSums 133 = .ok (.lmul, 1) := by decide +kernel
theorem dX8_findSums_134 : decode cX8_findSums 134 = .ok (.lload 14, 2) := by decide +kernel
theorem dX8_findSums_136 : decode cX8_findSums 136 = .ok (.lcmp, 1) := by decide +kernel
theorem dX8_findSums_137 : decode cX8_findSums 137 = .ok (.ifCond .ne 86, 3) := by decide +kernel
theorem dX8_findSums_140 : decode cX8_findSums 140 = .ok (.aload_n 0, 1) := by decide +kernel
theorem dX8_findSums_141 : decode cX8_findSums 141 = .ok (.aload_n 0, 1) := by decide +kernel
theorem dX8_findSums_142 : decode cX8_findSums 142 = .ok (.getfield 137, 3) := by decide +kernel
theorem dX8_findSums_145 : decode cX8_findSums 145 = .ok (.ifCond .lt 14, 3) := by decide +kernel
theorem dX8_findSums_148 : decode cX8_findSums 148 = .ok (.iload 9, 2) := by decide +kernel
theorem dX8_findSums_150 : decode cX8_findSums 150 = .ok (.iconst 1, 1) := by decide +kernel
theorem dX8_findSums_151 : decode cX8_findSums 151 = .ok (.iadd, 1) := by decide +kernel
theorem dX8_findSums_152 : decode cX8_findSums 152 = .ok (.aload_n 0, 1) := by decide +kernel
theorem dX8_findSums_153 : decode cX8_findSums 153 = .ok (.getfield 137, 3) := by decide +kernel
theorem dX8_findSums_156 : decode cX8_findSums 156 = .ok (.if_icmp .ge 10, 3) := by decide +kernel
theorem dX8_findSums_159 : decode cX8_findSums 159 = .ok (.iload 9, 2) := by decide +kernel
theorem dX8_findSums_161 : decode cX8_findSums 161 = .ok (.iconst 1, 1) := by decide +kernel
theorem dX8_findSums_162 : decode cX8_findSums 162 = .ok (.iadd, 1) := by decide +kernel
theorem dX8_findSums_163 : decode cX8_findSums 163 = .ok (.goto 7, 3) := by decide +kernel
theorem dX8_findSums_166 : decode cX8_findSums 166 = .ok (.aload_n 0, 1) := by decide +kernel
theorem dX8_findSums_167 : decode cX8_findSums 167 = .ok (.getfield 137, 3) := by decide +kernel
theorem dX8_findSums_170 : decode cX8_findSums 170 = .ok (.putfield 137, 3) := by decide +kernel
theorem dX8_findSums_173 : decode cX8_findSums 173 = .ok (.iload 7, 2) := by decide +kernel
theorem dX8_findSums_175 : decode cX8_findSums 175 = .ok (.ifCond .eq 11, 3) := by decide +kernel
theorem dX8_findSums_178 : decode cX8_findSums 178 = .ok (.iload 8, 2) := by decide +kernel
theorem dX8_findSums_180 : decode cX8_findSums 180 = .ok (.sipush 2000, 3) := by decide +kernel
theorem dX8_findSums_183 : decode cX8_findSums 183 = .ok (.if_icmp .ge 7, 3) := by decide +kernel
theorem dX8_findSums_186 : decode cX8_findSums 186 = .ok (.iconst 1, 1) := by decide +kernel
theorem dX8_findSums_187 : decode cX8_findSums 187 = .ok (.goto 4, 3) := by decide +kernel
theorem dX8_findSums_190 : decode cX8_findSums 190 = .ok (.iconst 0, 1) := by decide +kernel
theorem dX8_findSums_191 : decode cX8_findSums 191 = .ok (.istore 10, 2) := by decide +kernel
theorem dX8_findSums_193 : decode cX8_findSums 193 = .ok (.iload 7, 2) := by decide +kernel
theorem dX8_findSums_195 : decode cX8_findSums 195 = .ok (.ifCond .eq 113, 3) := by decide +kernel
theorem dX8_findSums_198 : decode cX8_findSums 198 = .ok (.iload 10, 2) := by decide +kernel
theorem dX8_findSums_200 : decode cX8_findSums 200 = .ok (.ifCond .eq 108, 3) := by decide +kernel
theorem dX8_findSums_203 : decode cX8_findSums 203 = .ok (.aload_n 0, 1) := by decide +kernel
theorem dX8_findSums_204 : decode cX8_findSums 204 = .ok (.iload 8, 2) := by decide +kernel
theorem dX8_findSums_206 : decode cX8_findSums 206 = .ok (.putfield 20, 3) := by decide +kernel
theorem dX8_findSums_209 : decode cX8_findSums 209 = .ok (.aload_n 0, 1) := by decide +kernel
theorem dX8_findSums_210 : decode cX8_findSums 210 = .ok (.iload 9, 2) := by decide +kernel
theorem dX8_findSums_212 : decode cX8_findSums 212 = .ok (.iconst 1, 1) := by decide +kernel
theorem dX8_findSums_213 : decode cX8_findSums 213 = .ok (.iadd, 1) := by decide +kernel
theorem dX8_findSums_214 : decode cX8_findSums 214 = .ok (.invokevirtual 140, 3) := by decide +kernel
theorem dX8_findSums_217 : decode cX8_findSums 217 = .ok (.iinc 8 1, 3) := by decide +kernel
theorem dX8_findSums_220 : decode cX8_findSums 220 = .ok (.goto 88, 3) := by decide +kernel
theorem dX8_findSums_223 : decode cX8_findSums 223 = .ok (.lload 12, 2) := by decide +kernel
theorem dX8_findSums_225 : decode cX8_findSums 225 = .ok (.iload 11, 2) := by decide +kernel
theorem dX8_findSums_227 : decode cX8_findSums 227 = .ok (.i2l, 1) := by decide +kernel
theorem dX8_findSums_228 : decode cX8_findSums 228 = .ok (.lmul, 1) := by decide +kernel
theorem dX8_findSums_229 : decode cX8_findSums 229 = .ok (.lload 14, 2) := by decide +kernel
theorem dX8_findSums_231 : decode cX8_findSums 231 = .ok (.lcmp, 1) := by decide +kernel
theorem dX8_findSums_232 : decode cX8_findSums 232 = .ok (.ifCond .le 76, 3) := by decide +kernel
theorem dX8_findSums_235 : decode cX8_findSums 235 = .ok (.iload 9, 2) := by decide +kernel
theorem dX8_findSums_237 : decode cX8_findSums 237 = .ok (.iconst 1, 1) := by decide +kernel
theorem dX8_findSums_238 : decode cX8_findSums 238 = .ok (.iadd, 1) := by decide +kernel
theorem dX8_findSums_239 : decode cX8_findSums 239 = .ok (.iload 6, 2) := by decide +kernel
theorem dX8_findSums_241 : decode cX8_findSums 241 = .ok (.if_icmp .ge 67, 3) := by decide +kernel
theorem dX8_findSums_244 : decode cX8_findSums 244 = .ok (.lload 12, 2) := by decide +kernel
theorem dX8_findSums_246 : decode cX8_findSums 246 = .ok (.iload 11, 2) := by decide +kernel
theorem dX8_findSums_248 : decode cX8_findSums 248 = .ok (.i2l, 1) := by decide +kernel
theorem dX8_findSums_249 : decode cX8_findSums 249 = .ok (.lmul, 1) := by decide +kernel
theorem dX8_findSums_250 : decode cX8_findSums 250 = .ok (.lload 14, 2) := by decide +kernel
theorem dX8_findSums_252 : decode cX8_findSums 252 = .ok (.lsub, 1) := by decide +kernel
theorem dX8_findSums_253 : decode cX8_findSums 253 = .ok (.lstore 17, 2) := by decide +kernel
theorem dX8_findSums_255 : decode cX8_findSums 255 = .ok (.lload 14, 2) := by decide +kernel
theorem dX8_findSums_257 : decode cX8_findSums 257 = .ok (.iload 11, 2) := by decide +kernel
theorem dX8_findSums_259 : decode cX8_findSums 259 = .ok (.i2l, 1) := by decide +kernel
theorem dX8_findSums_260 : decode cX8_findSums 260 = .ok (.lmul, 1) := by decide +kernel
theorem dX8_findSums_261 : decode cX8_findSums 261 = .ok (.lstore 19, 2) := by decide +kernel
theorem dX8_findSums_263 : decode cX8_findSums 263 = .ok (.lload 17, 2) := by decide +kernel
theorem dX8_findSums_265 : decode cX8_findSums 265 = .ok (.lload 19, 2) := by decide +kernel
theorem dX8_findSums_267 : decode cX8_findSums 267 = .ok (.invokestatic 64, 3) := by decide +kernel
theorem dX8_findSums_270 : decode cX8_findSums 270 = .ok (.lstore 21, 2) := by decide +kernel
theorem dX8_findSums_272 : decode cX8_findSums 272 = .ok (.iinc 9 1, 3) := by decide +kernel
theorem dX8_findSums_275 : decode cX8_findSums 275 = .ok (.aload_n 0, 1) := by decide +kernel
theorem dX8_findSums_276 : decode cX8_findSums 276 = .ok (.getfield 36, 3) := by decide +kernel
theorem dX8_findSums_279 : decode cX8_findSums 279 = .ok (.iload 9, 2) := by decide +kernel
theorem dX8_findSums_281 : decode cX8_findSums 281 = .ok (.lload 17, 2) := by decide +kernel
theorem dX8_findSums_283 : decode cX8_findSums 283 = .ok (.lload 21, 2) := by decide +kernel
theorem dX8_findSums_285 : decode cX8_findSums 285 = .ok (.ldiv, 1) := by decide +kernel
theorem dX8_findSums_286 : decode cX8_findSums 286 = .ok (.lastore, 1) := by decide +kernel
theorem dX8_findSums_287 : decode cX8_findSums 287 = .ok (.aload_n 0, 1) := by decide +kernel
theorem dX8_findSums_288 : decode cX8_findSums 288 = .ok (.getfield 39, 3) := by decide +kernel
theorem dX8_findSums_291 : decode cX8_findSums 291 = .ok (.iload 9, 2) := by decide +kernel
theorem dX8_findSums_293 : decode cX8_findSums 293 = .ok (.lload 19, 2) := by decide +kernel
theorem dX8_findSums_295 : decode cX8_findSums 295 = .ok (.lload 21, 2) := by decide +kernel
theorem dX8_findSums_297 : decode cX8_findSums 297 = .ok (.ldiv, 1) := by decide +kernel
theorem dX8_findSums_298 : decode cX8_findSums 298 = .ok (.lastore, 1) := by decide +kernel
theorem dX8_findSums_299 : decode cX8_findSums 299 = .ok (.aload_n 0, 1) := by decide +kernel
theorem dX8_findSums_300 : decode cX8_findSums 300 = .ok (.getfield 33, 3) := by decide +kernel
theorem dX8_findSums_303 : decode cX8_findSums 303 = .ok (.iload 9, 2) := by decide +kernel
theorem dX8_findSums_305 : decode cX8_findSums 305 = .ok (.iload 11, 2) := by decide +kernel
theorem dX8_findSums_307 : decode cX8_findSums 307 = .ok (.iastore, 1) := by decide +kernel
theorem dX8_findSums_308 : decode cX8_findSums 308 = .ok (.goto (-272), 3) := by decide +kernel
theorem dX8_findSums_311 : decode cX8_findSums 311 = .ok (.iload 7, 2) := by decide +kernel
theorem dX8_findSums_313 : decode cX8_findSums 313 = .ok (.ifCond .eq 18, 3) := by decide +kernel
theorem dX8_findSums_316 : decode cX8_findSums 316 = .ok (.aload_n 0, 1) := by decide +kernel
theorem dX8_findSums_317 : decode cX8_findSums 317 = .ok (.iload 10, 2) := by decide +kernel
theorem dX8_findSums_319 : decode cX8_findSums 319 = .ok (.ifCond .eq 8, 3) := by decide +kernel
theorem dX8_findSums_322 : decode cX8_findSums 322 = .ok (.iload 8, 2) := by decide +kernel
theorem dX8_findSums_324 : decode cX8_findSums 324 = .ok (.goto 4, 3) := by decide +kernel
theorem dX8_findSums_327 : decode cX8_findSums 327 = .ok (.iconst (-1), 1) := by decide +kernel
theorem dX8_findSums_328 : decode cX8_findSums 328 = .ok (.putfield 20, 3) := by decide +kernel
theorem dX8_findSums_331 : decode cX8_findSums 331 = .ok (.return_, 1) := by decide +kernel
abbrev po_X8_findSums (cI cJ : ClassId) (hX8 : Nat) (aX8_ups : Nat) (aX8_downs : Nat) (m_many : Int) (aX8_row : Nat) (m_isSpent : Int) (aX8_sumMany : Nat) (aX8_sumShares : Nat) (aX8_sumSet : Nat) (aX8_taken : Nat) (aX8_restUp : Nat) (aX8_restDown : Nat) (m_wishes : Int) (aX8_wished : Nat) (aX8_far : Nat) (aX8_queue : Nat) (m_divided : Int) (aX8_divisors : Nat) (aX8_least : Nat) (m_pairOne : Int) (m_pairTwo : Int) (m_sumUp : Int) (m_sumDown : Int) (Q : Int → (Int → Int) → (Int → Int) → (Int → Int) → (Int → Int) → (Int → Int) → (Int → Int) → Int → Prop) : Option Value → va_W → Prop := fun rv w1 => ∃ (m_found : Int) (m_sumMany : Int → Int) (m_sumShares : Int → Int) (m_sumSet : Int → Int) (m_taken : Int → Int) (m_restUp : Int → Int) (m_restDown : Int → Int) (m_fewest : Int), rv = none ∧ w1 = [(hX8, .inr (7, [.ref aX8_ups, .ref aX8_downs, .int (i32 m_many), .ref aX8_row, .int (i32 m_isSpent), .int (i32 m_found), .ref aX8_sumMany, .ref aX8_sumShares, .ref aX8_sumSet, .ref aX8_taken, .ref aX8_restUp, .ref aX8_restDown, .int (i32 m_fewest), .int (i32 m_wishes), .ref aX8_wished, .ref aX8_far, .ref aX8_queue, .int (i32 m_divided), .ref aX8_divisors, .ref aX8_least, .long (i64 m_pairOne), .long (i64 m_pairTwo), .long (i64 m_sumUp), .long (i64 m_sumDown)])), (aX8_sumMany, aI cI 2000 m_sumMany), (aX8_sumShares, aI cI 12000 m_sumShares), (aX8_sumSet, aL cJ 2000 m_sumSet), (aX8_taken, aI cI 7 m_taken), (aX8_restUp, aL cJ 8 m_restUp), (aX8_restDown, aL cJ 8 m_restDown)] ∧ r32 m_found ∧ rr32 m_sumMany ∧ rr32 m_sumShares ∧ rr64 m_sumSet ∧ rr32 m_taken ∧ rr64 m_restUp ∧ rr64 m_restDown ∧ r32 m_fewest ∧ Q m_found m_sumMany m_sumShares m_sumSet m_taken m_restUp m_restDown m_fewest
def wp_X8_findSums_308 (Q : Int → (Int → Int) → (Int → Int) → (Int → Int) → (Int → Int) → (Int → Int) → (Int → Int) → Int → Prop) (K_36 : Int → (Int → Int) → (Int → Int) → (Int → Int) → (Int → Int) → (Int → Int) → (Int → Int) → Int → Int → Int → Int → Int → Int → Int → Prop) (m_found : Int) (m_sumMany : Int → Int) (m_sumShares : Int → Int) (m_sumSet : Int → Int) (m_taken : Int → Int) (m_restUp : Int → Int) (m_restDown : Int → Int) (m_fewest : Int) (l5 : Int) (l6 : Int) (l7 : Int) (l8 : Int) (l9 : Int) (l10 : Int) : Prop := K_36 m_found m_sumMany m_sumShares m_sumSet m_taken m_restUp m_restDown m_fewest l5 l6 l7 l8 l9 l10
set_option maxHeartbeats 4000000 in
set_option maxRecDepth 100000 in
theorem s_X8_findSums_308 {X : Cx} (g : Gd X cX8_findSums RX8 none 23) (hR : X.R = rmL 2 0 0) (hX8 : Nat) (aX8_ups : Nat) (aX8_downs : Nat) (m_many : Int) (aX8_row : Nat) (m_isSpent : Int) (aX8_sumMany : Nat) (aX8_sumShares : Nat) (aX8_sumSet : Nat) (aX8_taken : Nat) (aX8_restUp : Nat) (aX8_restDown : Nat) (m_wishes : Int) (aX8_wished : Nat) (aX8_far : Nat) (aX8_queue : Nat) (m_divided : Int) (aX8_divisors : Nat) (aX8_least : Nat) (m_pairOne : Int) (m_pairTwo : Int) (m_sumUp : Int) (m_sumDown : Int) (Q : Int → (Int → Int) → (Int → Int) → (Int → Int) → (Int → Int) → (Int → Int) → (Int → Int) → Int → Prop) (hF : FQ X 0 0 (po_X8_findSums X.cI X.cJ hX8 aX8_ups aX8_downs m_many aX8_row m_isSpent aX8_sumMany aX8_sumShares aX8_sumSet aX8_taken aX8_restUp aX8_restDown m_wishes aX8_wished aX8_far aX8_queue m_divided aX8_divisors aX8_least m_pairOne m_pairTwo m_sumUp m_sumDown Q)) (K_36 : Int → (Int → Int) → (Int → Int) → (Int → Int) → (Int → Int) → (Int → Int) → (Int → Int) → Int → Int → Int → Int → Int → Int → Int → Prop) (hK_36 : ∀ (m_found : Int) (m_sumMany : Int → Int) (m_sumShares : Int → Int) (m_sumSet : Int → Int) (m_taken : Int → Int) (m_restUp : Int → Int) (m_restDown : Int → Int) (m_fewest : Int) (l5 : Int) (l6 : Int) (l7 : Int) (l8 : Int) (l9 : Int) (l10 : Int), r32 m_found → rr32 m_sumMany → rr32 m_sumShares → rr64 m_sumSet → rr32 m_taken → rr64 m_restUp → rr64 m_restDown → r32 m_fewest → r32 l5 → r32 l6 → r32 l7 → r32 l8 → r32 l9 → r32 l10 → K_36 m_found m_sumMany m_sumShares m_sumSet m_taken m_restUp m_restDown m_fewest l5 l6 l7 l8 l9 l10 → Wat X 0 0 36 [(0, .ref hX8), (5, .int (i32 l5)), (6, .int (i32 l6)), (7, .int (i32 l7)), (8, .int (i32 l8)), (9, .int (i32 l9)), (10, .int (i32 l10))] [] [(hX8, .inr (7, [.ref aX8_ups, .ref aX8_downs, .int (i32 m_many), .ref aX8_row, .int (i32 m_isSpent), .int (i32 m_found), .ref aX8_sumMany, .ref aX8_sumShares, .ref aX8_sumSet, .ref aX8_taken, .ref aX8_restUp, .ref aX8_restDown, .int (i32 m_fewest), .int (i32 m_wishes), .ref aX8_wished, .ref aX8_far, .ref aX8_queue, .int (i32 m_divided), .ref aX8_divisors, .ref aX8_least, .long (i64 m_pairOne), .long (i64 m_pairTwo), .long (i64 m_sumUp), .long (i64 m_sumDown)])), (aX8_sumMany, aI X.cI 2000 m_sumMany), (aX8_sumShares, aI X.cI 12000 m_sumShares), (aX8_sumSet, aL X.cJ 2000 m_sumSet), (aX8_taken, aI X.cI 7 m_taken), (aX8_restUp, aL X.cJ 8 m_restUp), (aX8_restDown, aL X.cJ 8 m_restDown)]) : ∀ (m_found : Int) (m_sumMany : Int → Int) (m_sumShares : Int → Int) (m_sumSet : Int → Int) (m_taken : Int → Int) (m_restUp : Int → Int) (m_restDown : Int → Int) (m_fewest : Int) (l5 : Int) (l6 : Int) (l7 : Int) (l8 : Int) (l9 : Int) (l10 : Int), r32 m_found → rr32 m_sumMany → rr32 m_sumShares → rr64 m_sumSet → rr32 m_taken → rr64 m_restUp → rr64 m_restDown → r32 m_fewest → r32 l5 → r32 l6 → r32 l7 → r32 l8 → r32 l9 → r32 l10 → wp_X8_findSums_308 Q K_36 m_found m_sumMany m_sumShares m_sumSet m_taken m_restUp m_restDown m_fewest l5 l6 l7 l8 l9 l10 → Wat X 0 0 308 [(0, .ref hX8), (5, .int (i32 l5)), (6, .int (i32 l6)), (7, .int (i32 l7)), (8, .int (i32 l8)), (9, .int (i32 l9)), (10, .int (i32 l10))] [] [(hX8, .inr (7, [.ref aX8_ups, .ref aX8_downs, .int (i32 m_many), .ref aX8_row, .int (i32 m_isSpent), .int (i32 m_found), .ref aX8_sumMany, .ref aX8_sumShares, .ref aX8_sumSet, .ref aX8_taken, .ref aX8_restUp, .ref aX8_restDown, .int (i32 m_fewest), .int (i32 m_wishes), .ref aX8_wished, .ref aX8_far, .ref aX8_queue, .int (i32 m_divided), .ref aX8_divisors, .ref aX8_least, .long (i64 m_pairOne), .long (i64 m_pairTwo), .long (i64 m_sumUp), .long (i64 m_sumDown)])), (aX8_sumMany, aI X.cI 2000 m_sumMany), (aX8_sumShares, aI X.cI 12000 m_sumShares), (aX8_sumSet, aL X.cJ 2000 m_sumSet), (aX8_taken, aI X.cI 7 m_taken), (aX8_restUp, aL X.cJ 8 m_restUp), (aX8_restDown, aL X.cJ 8 m_restDown)] := by
  intro m_found m_sumMany m_sumShares m_sumSet m_taken m_restUp m_restDown m_fewest l5 l6 l7 l8 l9 l10 r_m_found r_m_sumMany r_m_sumShares r_m_sumSet r_m_taken r_m_restUp r_m_restDown r_m_fewest r_l5 r_l6 r_l7 r_l8 r_l9 r_l10 h
  rw [wp_X8_findSums_308] at h
  refine q_goto g (-272) 36 (by decide) dX8_findSums_308 ?_
  exact hK_36 m_found m_sumMany m_sumShares m_sumSet m_taken m_restUp m_restDown m_fewest l5 l6 l7 l8 l9 l10 r_m_found r_m_sumMany r_m_sumShares r_m_sumSet r_m_taken r_m_restUp r_m_restDown r_m_fewest r_l5 r_l6 r_l7 r_l8 r_l9 r_l10 h
def wp_X8_findSums_191 (Q : Int → (Int → Int) → (Int → Int) → (Int → Int) → (Int → Int) → (Int → Int) → (Int → Int) → Int → Prop) (K_36 : Int → (Int → Int) → (Int → Int) → (Int → Int) → (Int → Int) → (Int → Int) → (Int → Int) → Int → Int → Int → Int → Int → Int → Int → Prop) (m_found : Int) (m_sumMany : Int → Int) (m_sumShares : Int → Int) (m_sumSet : Int → Int) (m_taken : Int → Int) (m_restUp : Int → Int) (m_restDown : Int → Int) (m_fewest : Int) (l5 : Int) (l6 : Int) (l7 : Int) (l8 : Int) (l9 : Int) (k0 : Int) : Prop := ((l7 = 0 → wp_X8_findSums_308 Q K_36 m_found m_sumMany m_sumShares m_sumSet m_taken m_restUp m_restDown m_fewest l5 l6 l7 l8 l9 k0) ∧
  (¬ (l7 = 0) → ((k0 = 0 → wp_X8_findSums_308 Q K_36 m_found m_sumMany m_sumShares m_sumSet m_taken m_restUp m_restDown m_fewest l5 l6 l7 l8 l9 k0) ∧
  (¬ (k0 = 0) → (r32 (l9 + 1) ∧ wp_X8_note (fun (m_sumMany_214 : Int → Int) (m_sumShares_214 : Int → Int) (m_sumSet_214 : Int → Int) => (r32 (l8 + 1) ∧ wp_X8_findSums_308 Q K_36 l8 m_sumMany_214 m_sumShares_214 m_sumSet_214 m_taken m_restUp m_restDown m_fewest l5 l6 l7 (l8 + 1) l9 k0)) l8 m_sumMany m_sumShares m_sumSet m_taken (l9 + 1))))))
set_option maxHeartbeats 4000000 in
set_option maxRecDepth 100000 in
theorem s_X8_findSums_191 {X : Cx} (g : Gd X cX8_findSums RX8 none 23) (hR : X.R = rmL 2 0 0) (hX8 : Nat) (aX8_ups : Nat) (aX8_downs : Nat) (m_many : Int) (aX8_row : Nat) (m_isSpent : Int) (aX8_sumMany : Nat) (aX8_sumShares : Nat) (aX8_sumSet : Nat) (aX8_taken : Nat) (aX8_restUp : Nat) (aX8_restDown : Nat) (m_wishes : Int) (aX8_wished : Nat) (aX8_far : Nat) (aX8_queue : Nat) (m_divided : Int) (aX8_divisors : Nat) (aX8_least : Nat) (m_pairOne : Int) (m_pairTwo : Int) (m_sumUp : Int) (m_sumDown : Int) (Q : Int → (Int → Int) → (Int → Int) → (Int → Int) → (Int → Int) → (Int → Int) → (Int → Int) → Int → Prop) (hF : FQ X 0 0 (po_X8_findSums X.cI X.cJ hX8 aX8_ups aX8_downs m_many aX8_row m_isSpent aX8_sumMany aX8_sumShares aX8_sumSet aX8_taken aX8_restUp aX8_restDown m_wishes aX8_wished aX8_far aX8_queue m_divided aX8_divisors aX8_least m_pairOne m_pairTwo m_sumUp m_sumDown Q)) (K_36 : Int → (Int → Int) → (Int → Int) → (Int → Int) → (Int → Int) → (Int → Int) → (Int → Int) → Int → Int → Int → Int → Int → Int → Int → Prop) (hK_36 : ∀ (m_found : Int) (m_sumMany : Int → Int) (m_sumShares : Int → Int) (m_sumSet : Int → Int) (m_taken : Int → Int) (m_restUp : Int → Int) (m_restDown : Int → Int) (m_fewest : Int) (l5 : Int) (l6 : Int) (l7 : Int) (l8 : Int) (l9 : Int) (l10 : Int), r32 m_found → rr32 m_sumMany → rr32 m_sumShares → rr64 m_sumSet → rr32 m_taken → rr64 m_restUp → rr64 m_restDown → r32 m_fewest → r32 l5 → r32 l6 → r32 l7 → r32 l8 → r32 l9 → r32 l10 → K_36 m_found m_sumMany m_sumShares m_sumSet m_taken m_restUp m_restDown m_fewest l5 l6 l7 l8 l9 l10 → Wat X 0 0 36 [(0, .ref hX8), (5, .int (i32 l5)), (6, .int (i32 l6)), (7, .int (i32 l7)), (8, .int (i32 l8)), (9, .int (i32 l9)), (10, .int (i32 l10))] [] [(hX8, .inr (7, [.ref aX8_ups, .ref aX8_downs, .int (i32 m_many), .ref aX8_row, .int (i32 m_isSpent), .int (i32 m_found), .ref aX8_sumMany, .ref aX8_sumShares, .ref aX8_sumSet, .ref aX8_taken, .ref aX8_restUp, .ref aX8_restDown, .int (i32 m_fewest), .int (i32 m_wishes), .ref aX8_wished, .ref aX8_far, .ref aX8_queue, .int (i32 m_divided), .ref aX8_divisors, .ref aX8_least, .long (i64 m_pairOne), .long (i64 m_pairTwo), .long (i64 m_sumUp), .long (i64 m_sumDown)])), (aX8_sumMany, aI X.cI 2000 m_sumMany), (aX8_sumShares, aI X.cI 12000 m_sumShares), (aX8_sumSet, aL X.cJ 2000 m_sumSet), (aX8_taken, aI X.cI 7 m_taken), (aX8_restUp, aL X.cJ 8 m_restUp), (aX8_restDown, aL X.cJ 8 m_restDown)]) : ∀ (m_found : Int) (m_sumMany : Int → Int) (m_sumShares : Int → Int) (m_sumSet : Int → Int) (m_taken : Int → Int) (m_restUp : Int → Int) (m_restDown : Int → Int) (m_fewest : Int) (l5 : Int) (l6 : Int) (l7 : Int) (l8 : Int) (l9 : Int) (k0 : Int), r32 m_found → rr32 m_sumMany → rr32 m_sumShares → rr64 m_sumSet → rr32 m_taken → rr64 m_restUp → rr64 m_restDown → r32 m_fewest → r32 l5 → r32 l6 → r32 l7 → r32 l8 → r32 l9 → r32 k0 → wp_X8_findSums_191 Q K_36 m_found m_sumMany m_sumShares m_sumSet m_taken m_restUp m_restDown m_fewest l5 l6 l7 l8 l9 k0 → Wat X 0 0 191 [(0, .ref hX8), (5, .int (i32 l5)), (6, .int (i32 l6)), (7, .int (i32 l7)), (8, .int (i32 l8)), (9, .int (i32 l9))] [.int (i32 k0)] [(hX8, .inr (7, [.ref aX8_ups, .ref aX8_downs, .int (i32 m_many), .ref aX8_row, .int (i32 m_isSpent), .int (i32 m_found), .ref aX8_sumMany, .ref aX8_sumShares, .ref aX8_sumSet, .ref aX8_taken, .ref aX8_restUp, .ref aX8_restDown, .int (i32 m_fewest), .int (i32 m_wishes), .ref aX8_wished, .ref aX8_far, .ref aX8_queue, .int (i32 m_divided), .ref aX8_divisors, .ref aX8_least, .long (i64 m_pairOne), .long (i64 m_pairTwo), .long (i64 m_sumUp), .long (i64 m_sumDown)])), (aX8_sumMany, aI X.cI 2000 m_sumMany), (aX8_sumShares, aI X.cI 12000 m_sumShares), (aX8_sumSet, aL X.cJ 2000 m_sumSet), (aX8_taken, aI X.cI 7 m_taken), (aX8_restUp, aL X.cJ 8 m_restUp), (aX8_restDown, aL X.cJ 8 m_restDown)] := by
  intro m_found m_sumMany m_sumShares m_sumSet m_taken m_restUp m_restDown m_fewest l5 l6 l7 l8 l9 k0 r_m_found r_m_sumMany r_m_sumShares r_m_sumSet r_m_taken r_m_restUp r_m_restDown r_m_fewest r_l5 r_l6 r_l7 r_l8 r_l9 r_k0 h
  rw [wp_X8_findSums_191] at h
  refine q_istore (lv' := [(10, .int (i32 k0)), (0, .ref hX8), (5, .int (i32 l5)), (6, .int (i32 l6)), (7, .int (i32 l7)), (8, .int (i32 l8)), (9, .int (i32 l9))]) g 10   (by decide) rfl dX8_findSums_191 ?_
  refine q_iload g 7 4 rfl dX8_findSums_193 ?_
  refine q_if_eq g (113) 308 r_l7 (by decide) dX8_findSums_195 (fun b195 => ?_) (fun b195 => ?_)
  · replace h := h.1 b195
    refine q_lv (lv' := [(0, .ref hX8), (5, .int (i32 l5)), (6, .int (i32 l6)), (7, .int (i32 l7)), (8, .int (i32 l8)), (9, .int (i32 l9)), (10, .int (i32 k0))]) [1, 2, 3, 4, 5, 6, 0] rfl ?_
    exact s_X8_findSums_308 g hR hX8 aX8_ups aX8_downs m_many aX8_row m_isSpent aX8_sumMany aX8_sumShares aX8_sumSet aX8_taken aX8_restUp aX8_restDown m_wishes aX8_wished aX8_far aX8_queue m_divided aX8_divisors aX8_least m_pairOne m_pairTwo m_sumUp m_sumDown Q hF K_36 hK_36 m_found m_sumMany m_sumShares m_sumSet m_taken m_restUp m_restDown m_fewest l5 l6 l7 l8 l9 k0 r_m_found r_m_sumMany r_m_sumShares r_m_sumSet r_m_taken r_m_restUp r_m_restDown r_m_fewest r_l5 r_l6 r_l7 r_l8 r_l9 r_k0 h
  replace h := h.2 b195
  refine q_iload g 10 0 rfl dX8_findSums_198 ?_
  refine q_if_eq g (108) 308 r_k0 (by decide) dX8_findSums_200 (fun b200 => ?_) (fun b200 => ?_)
  · replace h := h.1 b200
    refine q_lv (lv' := [(0, .ref hX8), (5, .int (i32 l5)), (6, .int (i32 l6)), (7, .int (i32 l7)), (8, .int (i32 l8)), (9, .int (i32 l9)), (10, .int (i32 k0))]) [1, 2, 3, 4, 5, 6, 0] rfl ?_
    exact s_X8_findSums_308 g hR hX8 aX8_ups aX8_downs m_many aX8_row m_isSpent aX8_sumMany aX8_sumShares aX8_sumSet aX8_taken aX8_restUp aX8_restDown m_wishes aX8_wished aX8_far aX8_queue m_divided aX8_divisors aX8_least m_pairOne m_pairTwo m_sumUp m_sumDown Q hF K_36 hK_36 m_found m_sumMany m_sumShares m_sumSet m_taken m_restUp m_restDown m_fewest l5 l6 l7 l8 l9 k0 r_m_found r_m_sumMany r_m_sumShares r_m_sumSet r_m_taken r_m_restUp r_m_restDown r_m_fewest r_l5 r_l6 r_l7 r_l8 r_l9 r_k0 h
  replace h := h.2 b200
  refine q_aload_n g 0 1 rfl dX8_findSums_203 ?_
  refine q_iload g 8 5 rfl dX8_findSums_204 ?_
  refine q_put (C := RX8) (T := TX8) (N := 24) (ty := .int) (ws' := [(hX8, .inr (7, [.ref aX8_ups, .ref aX8_downs, .int (i32 m_many), .ref aX8_row, .int (i32 m_isSpent), .int (i32 l8), .ref aX8_sumMany, .ref aX8_sumShares, .ref aX8_sumSet, .ref aX8_taken, .ref aX8_restUp, .ref aX8_restDown, .int (i32 m_fewest), .int (i32 m_wishes), .ref aX8_wished, .ref aX8_far, .ref aX8_queue, .int (i32 m_divided), .ref aX8_divisors, .ref aX8_least, .long (i64 m_pairOne), .long (i64 m_pairTwo), .long (i64 m_sumUp), .long (i64 m_sumDown)])), (aX8_sumMany, aI X.cI 2000 m_sumMany), (aX8_sumShares, aI X.cI 12000 m_sumShares), (aX8_sumSet, aL X.cJ 2000 m_sumSet), (aX8_taken, aI X.cI 7 m_taken), (aX8_restUp, aL X.cJ 8 m_restUp), (aX8_restDown, aL X.cJ 8 m_restDown)]) g 20 inX8 tyX8_ok nmX8 0 5 rfl rfl (by decide) wF_X8_20 rfl rfl rfl rfl (Nat.le_of_ble_eq_true rfl) rfl dX8_findSums_206 ?_
  refine q_aload_n g 0 1 rfl dX8_findSums_209 ?_
  refine q_iload g 9 6 rfl dX8_findSums_210 ?_
  refine q_iconst g (1) dX8_findSums_212 ?_
  obtain ⟨c213, h⟩ := h
  refine q_iadd g dX8_findSums_213 ?_
  refine q_callV (lev := 1) (mc := 0) (ms := 0) g 140 (c_X8_note X.l X.D X.cI X.cJ X.zt hX8 aX8_ups aX8_downs m_many aX8_row m_isSpent l8 aX8_sumMany aX8_sumShares aX8_sumSet aX8_taken aX8_restUp aX8_restDown m_fewest m_wishes aX8_wished aX8_far aX8_queue m_divided aX8_divisors aX8_least m_pairOne m_pairTwo m_sumUp m_sumDown m_sumMany m_sumShares m_sumSet m_taken (l9 + 1) _ r_l8 r_m_sumMany r_m_sumShares r_m_sumSet r_m_taken c213 h) (wr := [(aX8_restUp, aL X.cJ 8 m_restUp), (aX8_restDown, aL X.cJ 8 m_restDown)]) [0, 1, 2, 3, 4] [5, 6] rfl rfl rfl (by decide) (by decide) (by decide) (ci := 7) rfl rfl rfl wM_X8_140 wI_X8_note wS_X8_note wZ_X8 wC_X8_note 1 rfl (by decide +kernel) (by rw [hR]; exact ⟨by show 1 + 1 ≤ 2; omega, by show 8 + (5 + 11) + 100 * 1 ≤ 100 * 2; omega⟩) (by rw [hR]; exact ⟨Nat.le_refl _, Nat.le_refl _⟩) (Nat.le_of_ble_eq_true rfl) rfl dX8_findSums_214 (fun rv w1 hq => ?_)
  obtain ⟨m_sumMany_214, m_sumShares_214, m_sumSet_214, rfl, rfl, rm_sumMany_214, rm_sumShares_214, rm_sumSet_214, h⟩ := hq
  refine q_ws (ws' := [(hX8, .inr (7, [.ref aX8_ups, .ref aX8_downs, .int (i32 m_many), .ref aX8_row, .int (i32 m_isSpent), .int (i32 l8), .ref aX8_sumMany, .ref aX8_sumShares, .ref aX8_sumSet, .ref aX8_taken, .ref aX8_restUp, .ref aX8_restDown, .int (i32 m_fewest), .int (i32 m_wishes), .ref aX8_wished, .ref aX8_far, .ref aX8_queue, .int (i32 m_divided), .ref aX8_divisors, .ref aX8_least, .long (i64 m_pairOne), .long (i64 m_pairTwo), .long (i64 m_sumUp), .long (i64 m_sumDown)])), (aX8_sumMany, aI X.cI 2000 m_sumMany_214), (aX8_sumShares, aI X.cI 12000 m_sumShares_214), (aX8_sumSet, aL X.cJ 2000 m_sumSet_214), (aX8_taken, aI X.cI 7 m_taken), (aX8_restUp, aL X.cJ 8 m_restUp), (aX8_restDown, aL X.cJ 8 m_restDown)]) [2, 3, 4, 5, 6, 0, 1] (by decide) rfl rfl ?_
  show Wat X 0 0 217 [(10, .int (i32 k0)), (0, .ref hX8), (5, .int (i32 l5)), (6, .int (i32 l6)), (7, .int (i32 l7)), (8, .int (i32 l8)), (9, .int (i32 l9))] [] [(hX8, .inr (7, [.ref aX8_ups, .ref aX8_downs, .int (i32 m_many), .ref aX8_row, .int (i32 m_isSpent), .int (i32 l8), .ref aX8_sumMany, .ref aX8_sumShares, .ref aX8_sumSet, .ref aX8_taken, .ref aX8_restUp, .ref aX8_restDown, .int (i32 m_fewest), .int (i32 m_wishes), .ref aX8_wished, .ref aX8_far, .ref aX8_queue, .int (i32 m_divided), .ref aX8_divisors, .ref aX8_least, .long (i64 m_pairOne), .long (i64 m_pairTwo), .long (i64 m_sumUp), .long (i64 m_sumDown)])), (aX8_sumMany, aI X.cI 2000 m_sumMany_214), (aX8_sumShares, aI X.cI 12000 m_sumShares_214), (aX8_sumSet, aL X.cJ 2000 m_sumSet_214), (aX8_taken, aI X.cI 7 m_taken), (aX8_restUp, aL X.cJ 8 m_restUp), (aX8_restDown, aL X.cJ 8 m_restDown)]
  obtain ⟨c217, h⟩ := h
  refine q_iinc (lv' := [(8, .int (i32 (l8 + 1))), (10, .int (i32 k0)), (0, .ref hX8), (5, .int (i32 l5)), (6, .int (i32 l6)), (7, .int (i32 l7)), (9, .int (i32 l9))]) g 8 5 1 (by decide) rfl rfl dX8_findSums_217 ?_
  refine q_goto g (88) 308 (by decide) dX8_findSums_220 ?_
  refine q_lv (lv' := [(0, .ref hX8), (5, .int (i32 l5)), (6, .int (i32 l6)), (7, .int (i32 l7)), (8, .int (i32 (l8 + 1))), (9, .int (i32 l9)), (10, .int (i32 k0))]) [2, 3, 4, 5, 0, 6, 1] rfl ?_
  exact s_X8_findSums_308 g hR hX8 aX8_ups aX8_downs m_many aX8_row m_isSpent aX8_sumMany aX8_sumShares aX8_sumSet aX8_taken aX8_restUp aX8_restDown m_wishes aX8_wished aX8_far aX8_queue m_divided aX8_divisors aX8_least m_pairOne m_pairTwo m_sumUp m_sumDown Q hF K_36 hK_36 l8 m_sumMany_214 m_sumShares_214 m_sumSet_214 m_taken m_restUp m_restDown m_fewest l5 l6 l7 (l8 + 1) l9 k0 r_l8 rm_sumMany_214 rm_sumShares_214 rm_sumSet_214 r_m_taken r_m_restUp r_m_restDown r_m_fewest r_l5 r_l6 r_l7 c217 r_l9 r_k0 h
def wp_X8_findSums_186 (Q : Int → (Int → Int) → (Int → Int) → (Int → Int) → (Int → Int) → (Int → Int) → (Int → Int) → Int → Prop) (K_36 : Int → (Int → Int) → (Int → Int) → (Int → Int) → (Int → Int) → (Int → Int) → (Int → Int) → Int → Int → Int → Int → Int → Int → Int → Prop) (m_found : Int) (m_sumMany : Int → Int) (m_sumShares : Int → Int) (m_sumSet : Int → Int) (m_taken : Int → Int) (m_restUp : Int → Int) (m_restDown : Int → Int) (m_fewest : Int) (l5 : Int) (l6 : Int) (l7 : Int) (l8 : Int) (l9 : Int) : Prop := wp_X8_findSums_191 Q K_36 m_found m_sumMany m_sumShares m_sumSet m_taken m_restUp m_restDown m_fewest l5 l6 l7 l8 l9 1
set_option maxHeartbeats 4000000 in
set_option maxRecDepth 100000 in
theorem s_X8_findSums_186 {X : Cx} (g : Gd X cX8_findSums RX8 none 23) (hR : X.R = rmL 2 0 0) (hX8 : Nat) (aX8_ups : Nat) (aX8_downs : Nat) (m_many : Int) (aX8_row : Nat) (m_isSpent : Int) (aX8_sumMany : Nat) (aX8_sumShares : Nat) (aX8_sumSet : Nat) (aX8_taken : Nat) (aX8_restUp : Nat) (aX8_restDown : Nat) (m_wishes : Int) (aX8_wished : Nat) (aX8_far : Nat) (aX8_queue : Nat) (m_divided : Int) (aX8_divisors : Nat) (aX8_least : Nat) (m_pairOne : Int) (m_pairTwo : Int) (m_sumUp : Int) (m_sumDown : Int) (Q : Int → (Int → Int) → (Int → Int) → (Int → Int) → (Int → Int) → (Int → Int) → (Int → Int) → Int → Prop) (hF : FQ X 0 0 (po_X8_findSums X.cI X.cJ hX8 aX8_ups aX8_downs m_many aX8_row m_isSpent aX8_sumMany aX8_sumShares aX8_sumSet aX8_taken aX8_restUp aX8_restDown m_wishes aX8_wished aX8_far aX8_queue m_divided aX8_divisors aX8_least m_pairOne m_pairTwo m_sumUp m_sumDown Q)) (K_36 : Int → (Int → Int) → (Int → Int) → (Int → Int) → (Int → Int) → (Int → Int) → (Int → Int) → Int → Int → Int → Int → Int → Int → Int → Prop) (hK_36 : ∀ (m_found : Int) (m_sumMany : Int → Int) (m_sumShares : Int → Int) (m_sumSet : Int → Int) (m_taken : Int → Int) (m_restUp : Int → Int) (m_restDown : Int → Int) (m_fewest : Int) (l5 : Int) (l6 : Int) (l7 : Int) (l8 : Int) (l9 : Int) (l10 : Int), r32 m_found → rr32 m_sumMany → rr32 m_sumShares → rr64 m_sumSet → rr32 m_taken → rr64 m_restUp → rr64 m_restDown → r32 m_fewest → r32 l5 → r32 l6 → r32 l7 → r32 l8 → r32 l9 → r32 l10 → K_36 m_found m_sumMany m_sumShares m_sumSet m_taken m_restUp m_restDown m_fewest l5 l6 l7 l8 l9 l10 → Wat X 0 0 36 [(0, .ref hX8), (5, .int (i32 l5)), (6, .int (i32 l6)), (7, .int (i32 l7)), (8, .int (i32 l8)), (9, .int (i32 l9)), (10, .int (i32 l10))] [] [(hX8, .inr (7, [.ref aX8_ups, .ref aX8_downs, .int (i32 m_many), .ref aX8_row, .int (i32 m_isSpent), .int (i32 m_found), .ref aX8_sumMany, .ref aX8_sumShares, .ref aX8_sumSet, .ref aX8_taken, .ref aX8_restUp, .ref aX8_restDown, .int (i32 m_fewest), .int (i32 m_wishes), .ref aX8_wished, .ref aX8_far, .ref aX8_queue, .int (i32 m_divided), .ref aX8_divisors, .ref aX8_least, .long (i64 m_pairOne), .long (i64 m_pairTwo), .long (i64 m_sumUp), .long (i64 m_sumDown)])), (aX8_sumMany, aI X.cI 2000 m_sumMany), (aX8_sumShares, aI X.cI 12000 m_sumShares), (aX8_sumSet, aL X.cJ 2000 m_sumSet), (aX8_taken, aI X.cI 7 m_taken), (aX8_restUp, aL X.cJ 8 m_restUp), (aX8_restDown, aL X.cJ 8 m_restDown)]) : ∀ (m_found : Int) (m_sumMany : Int → Int) (m_sumShares : Int → Int) (m_sumSet : Int → Int) (m_taken : Int → Int) (m_restUp : Int → Int) (m_restDown : Int → Int) (m_fewest : Int) (l5 : Int) (l6 : Int) (l7 : Int) (l8 : Int) (l9 : Int), r32 m_found → rr32 m_sumMany → rr32 m_sumShares → rr64 m_sumSet → rr32 m_taken → rr64 m_restUp → rr64 m_restDown → r32 m_fewest → r32 l5 → r32 l6 → r32 l7 → r32 l8 → r32 l9 → wp_X8_findSums_186 Q K_36 m_found m_sumMany m_sumShares m_sumSet m_taken m_restUp m_restDown m_fewest l5 l6 l7 l8 l9 → Wat X 0 0 186 [(0, .ref hX8), (5, .int (i32 l5)), (6, .int (i32 l6)), (7, .int (i32 l7)), (8, .int (i32 l8)), (9, .int (i32 l9))] [] [(hX8, .inr (7, [.ref aX8_ups, .ref aX8_downs, .int (i32 m_many), .ref aX8_row, .int (i32 m_isSpent), .int (i32 m_found), .ref aX8_sumMany, .ref aX8_sumShares, .ref aX8_sumSet, .ref aX8_taken, .ref aX8_restUp, .ref aX8_restDown, .int (i32 m_fewest), .int (i32 m_wishes), .ref aX8_wished, .ref aX8_far, .ref aX8_queue, .int (i32 m_divided), .ref aX8_divisors, .ref aX8_least, .long (i64 m_pairOne), .long (i64 m_pairTwo), .long (i64 m_sumUp), .long (i64 m_sumDown)])), (aX8_sumMany, aI X.cI 2000 m_sumMany), (aX8_sumShares, aI X.cI 12000 m_sumShares), (aX8_sumSet, aL X.cJ 2000 m_sumSet), (aX8_taken, aI X.cI 7 m_taken), (aX8_restUp, aL X.cJ 8 m_restUp), (aX8_restDown, aL X.cJ 8 m_restDown)] := by
  intro m_found m_sumMany m_sumShares m_sumSet m_taken m_restUp m_restDown m_fewest l5 l6 l7 l8 l9 r_m_found r_m_sumMany r_m_sumShares r_m_sumSet r_m_taken r_m_restUp r_m_restDown r_m_fewest r_l5 r_l6 r_l7 r_l8 r_l9 h
  rw [wp_X8_findSums_186] at h
  refine q_iconst g (1) dX8_findSums_186 ?_
  refine q_goto g (4) 191 (by decide) dX8_findSums_187 ?_
  exact s_X8_findSums_191 g hR hX8 aX8_ups aX8_downs m_many aX8_row m_isSpent aX8_sumMany aX8_sumShares aX8_sumSet aX8_taken aX8_restUp aX8_restDown m_wishes aX8_wished aX8_far aX8_queue m_divided aX8_divisors aX8_least m_pairOne m_pairTwo m_sumUp m_sumDown Q hF K_36 hK_36 m_found m_sumMany m_sumShares m_sumSet m_taken m_restUp m_restDown m_fewest l5 l6 l7 l8 l9 1 r_m_found r_m_sumMany r_m_sumShares r_m_sumSet r_m_taken r_m_restUp r_m_restDown r_m_fewest r_l5 r_l6 r_l7 r_l8 r_l9 (r32_lit _ (by decide)) h
def wp_X8_findSums_170 (Q : Int → (Int → Int) → (Int → Int) → (Int → Int) → (Int → Int) → (Int → Int) → (Int → Int) → Int → Prop) (K_36 : Int → (Int → Int) → (Int → Int) → (Int → Int) → (Int → Int) → (Int → Int) → (Int → Int) → Int → Int → Int → Int → Int → Int → Int → Prop) (m_found : Int) (m_sumMany : Int → Int) (m_sumShares : Int → Int) (m_sumSet : Int → Int) (m_taken : Int → Int) (m_restUp : Int → Int) (m_restDown : Int → Int) (m_fewest : Int) (l5 : Int) (l6 : Int) (l7 : Int) (l8 : Int) (l9 : Int) (k1 : Int) : Prop := ((l7 = 0 → wp_X8_findSums_186 Q K_36 m_found m_sumMany m_sumShares m_sumSet m_taken m_restUp m_restDown k1 l5 l6 l7 l8 l9) ∧
  (¬ (l7 = 0) → ((2000 ≤ l8 → wp_X8_findSums_191 Q K_36 m_found m_sumMany m_sumShares m_sumSet m_taken m_restUp m_restDown k1 l5 l6 l7 l8 l9 0) ∧
  (¬ (2000 ≤ l8) → wp_X8_findSums_186 Q K_36 m_found m_sumMany m_sumShares m_sumSet m_taken m_restUp m_restDown k1 l5 l6 l7 l8 l9))))
set_option maxHeartbeats 4000000 in
set_option maxRecDepth 100000 in
theorem s_X8_findSums_170 {X : Cx} (g : Gd X cX8_findSums RX8 none 23) (hR : X.R = rmL 2 0 0) (hX8 : Nat) (aX8_ups : Nat) (aX8_downs : Nat) (m_many : Int) (aX8_row : Nat) (m_isSpent : Int) (aX8_sumMany : Nat) (aX8_sumShares : Nat) (aX8_sumSet : Nat) (aX8_taken : Nat) (aX8_restUp : Nat) (aX8_restDown : Nat) (m_wishes : Int) (aX8_wished : Nat) (aX8_far : Nat) (aX8_queue : Nat) (m_divided : Int) (aX8_divisors : Nat) (aX8_least : Nat) (m_pairOne : Int) (m_pairTwo : Int) (m_sumUp : Int) (m_sumDown : Int) (Q : Int → (Int → Int) → (Int → Int) → (Int → Int) → (Int → Int) → (Int → Int) → (Int → Int) → Int → Prop) (hF : FQ X 0 0 (po_X8_findSums X.cI X.cJ hX8 aX8_ups aX8_downs m_many aX8_row m_isSpent aX8_sumMany aX8_sumShares aX8_sumSet aX8_taken aX8_restUp aX8_restDown m_wishes aX8_wished aX8_far aX8_queue m_divided aX8_divisors aX8_least m_pairOne m_pairTwo m_sumUp m_sumDown Q)) (K_36 : Int → (Int → Int) → (Int → Int) → (Int → Int) → (Int → Int) → (Int → Int) → (Int → Int) → Int → Int → Int → Int → Int → Int → Int → Prop) (hK_36 : ∀ (m_found : Int) (m_sumMany : Int → Int) (m_sumShares : Int → Int) (m_sumSet : Int → Int) (m_taken : Int → Int) (m_restUp : Int → Int) (m_restDown : Int → Int) (m_fewest : Int) (l5 : Int) (l6 : Int) (l7 : Int) (l8 : Int) (l9 : Int) (l10 : Int), r32 m_found → rr32 m_sumMany → rr32 m_sumShares → rr64 m_sumSet → rr32 m_taken → rr64 m_restUp → rr64 m_restDown → r32 m_fewest → r32 l5 → r32 l6 → r32 l7 → r32 l8 → r32 l9 → r32 l10 → K_36 m_found m_sumMany m_sumShares m_sumSet m_taken m_restUp m_restDown m_fewest l5 l6 l7 l8 l9 l10 → Wat X 0 0 36 [(0, .ref hX8), (5, .int (i32 l5)), (6, .int (i32 l6)), (7, .int (i32 l7)), (8, .int (i32 l8)), (9, .int (i32 l9)), (10, .int (i32 l10))] [] [(hX8, .inr (7, [.ref aX8_ups, .ref aX8_downs, .int (i32 m_many), .ref aX8_row, .int (i32 m_isSpent), .int (i32 m_found), .ref aX8_sumMany, .ref aX8_sumShares, .ref aX8_sumSet, .ref aX8_taken, .ref aX8_restUp, .ref aX8_restDown, .int (i32 m_fewest), .int (i32 m_wishes), .ref aX8_wished, .ref aX8_far, .ref aX8_queue, .int (i32 m_divided), .ref aX8_divisors, .ref aX8_least, .long (i64 m_pairOne), .long (i64 m_pairTwo), .long (i64 m_sumUp), .long (i64 m_sumDown)])), (aX8_sumMany, aI X.cI 2000 m_sumMany), (aX8_sumShares, aI X.cI 12000 m_sumShares), (aX8_sumSet, aL X.cJ 2000 m_sumSet), (aX8_taken, aI X.cI 7 m_taken), (aX8_restUp, aL X.cJ 8 m_restUp), (aX8_restDown, aL X.cJ 8 m_restDown)]) : ∀ (m_found : Int) (m_sumMany : Int → Int) (m_sumShares : Int → Int) (m_sumSet : Int → Int) (m_taken : Int → Int) (m_restUp : Int → Int) (m_restDown : Int → Int) (m_fewest : Int) (l5 : Int) (l6 : Int) (l7 : Int) (l8 : Int) (l9 : Int) (k1 : Int), r32 m_found → rr32 m_sumMany → rr32 m_sumShares → rr64 m_sumSet → rr32 m_taken → rr64 m_restUp → rr64 m_restDown → r32 m_fewest → r32 l5 → r32 l6 → r32 l7 → r32 l8 → r32 l9 → r32 k1 → wp_X8_findSums_170 Q K_36 m_found m_sumMany m_sumShares m_sumSet m_taken m_restUp m_restDown m_fewest l5 l6 l7 l8 l9 k1 → Wat X 0 0 170 [(0, .ref hX8), (5, .int (i32 l5)), (6, .int (i32 l6)), (7, .int (i32 l7)), (8, .int (i32 l8)), (9, .int (i32 l9))] [.int (i32 k1), .ref hX8] [(hX8, .inr (7, [.ref aX8_ups, .ref aX8_downs, .int (i32 m_many), .ref aX8_row, .int (i32 m_isSpent), .int (i32 m_found), .ref aX8_sumMany, .ref aX8_sumShares, .ref aX8_sumSet, .ref aX8_taken, .ref aX8_restUp, .ref aX8_restDown, .int (i32 m_fewest), .int (i32 m_wishes), .ref aX8_wished, .ref aX8_far, .ref aX8_queue, .int (i32 m_divided), .ref aX8_divisors, .ref aX8_least, .long (i64 m_pairOne), .long (i64 m_pairTwo), .long (i64 m_sumUp), .long (i64 m_sumDown)])), (aX8_sumMany, aI X.cI 2000 m_sumMany), (aX8_sumShares, aI X.cI 12000 m_sumShares), (aX8_sumSet, aL X.cJ 2000 m_sumSet), (aX8_taken, aI X.cI 7 m_taken), (aX8_restUp, aL X.cJ 8 m_restUp), (aX8_restDown, aL X.cJ 8 m_restDown)] := by
  intro m_found m_sumMany m_sumShares m_sumSet m_taken m_restUp m_restDown m_fewest l5 l6 l7 l8 l9 k1 r_m_found r_m_sumMany r_m_sumShares r_m_sumSet r_m_taken r_m_restUp r_m_restDown r_m_fewest r_l5 r_l6 r_l7 r_l8 r_l9 r_k1 h
  rw [wp_X8_findSums_170] at h
  refine q_put (C := RX8) (T := TX8) (N := 24) (ty := .int) (ws' := [(hX8, .inr (7, [.ref aX8_ups, .ref aX8_downs, .int (i32 m_many), .ref aX8_row, .int (i32 m_isSpent), .int (i32 m_found), .ref aX8_sumMany, .ref aX8_sumShares, .ref aX8_sumSet, .ref aX8_taken, .ref aX8_restUp, .ref aX8_restDown, .int (i32 k1), .int (i32 m_wishes), .ref aX8_wished, .ref aX8_far, .ref aX8_queue, .int (i32 m_divided), .ref aX8_divisors, .ref aX8_least, .long (i64 m_pairOne), .long (i64 m_pairTwo), .long (i64 m_sumUp), .long (i64 m_sumDown)])), (aX8_sumMany, aI X.cI 2000 m_sumMany), (aX8_sumShares, aI X.cI 12000 m_sumShares), (aX8_sumSet, aL X.cJ 2000 m_sumSet), (aX8_taken, aI X.cI 7 m_taken), (aX8_restUp, aL X.cJ 8 m_restUp), (aX8_restDown, aL X.cJ 8 m_restDown)]) g 137 inX8 tyX8_ok nmX8 0 12 rfl rfl (by decide) wF_X8_137 rfl rfl rfl rfl (Nat.le_of_ble_eq_true rfl) rfl dX8_findSums_170 ?_
  refine q_iload g 7 3 rfl dX8_findSums_173 ?_
  refine q_if_eq g (11) 186 r_l7 (by decide) dX8_findSums_175 (fun b175 => ?_) (fun b175 => ?_)
  · replace h := h.1 b175
    exact s_X8_findSums_186 g hR hX8 aX8_ups aX8_downs m_many aX8_row m_isSpent aX8_sumMany aX8_sumShares aX8_sumSet aX8_taken aX8_restUp aX8_restDown m_wishes aX8_wished aX8_far aX8_queue m_divided aX8_divisors aX8_least m_pairOne m_pairTwo m_sumUp m_sumDown Q hF K_36 hK_36 m_found m_sumMany m_sumShares m_sumSet m_taken m_restUp m_restDown k1 l5 l6 l7 l8 l9 r_m_found r_m_sumMany r_m_sumShares r_m_sumSet r_m_taken r_m_restUp r_m_restDown r_k1 r_l5 r_l6 r_l7 r_l8 r_l9 h
  replace h := h.2 b175
  refine q_iload g 8 4 rfl dX8_findSums_178 ?_
  refine q_sipush g (2000) (by decide) (by decide) dX8_findSums_180 ?_
  refine q_icmp_ge g (7) 190 r_l8 (r32_lit _ (by decide)) (by decide) dX8_findSums_183 (fun b183 => ?_) (fun b183 => ?_)
  · replace h := h.1 b183
    refine q_iconst g (0) dX8_findSums_190 ?_
    exact s_X8_findSums_191 g hR hX8 aX8_ups aX8_downs m_many aX8_row m_isSpent aX8_sumMany aX8_sumShares aX8_sumSet aX8_taken aX8_restUp aX8_restDown m_wishes aX8_wished aX8_far aX8_queue m_divided aX8_divisors aX8_least m_pairOne m_pairTwo m_sumUp m_sumDown Q hF K_36 hK_36 m_found m_sumMany m_sumShares m_sumSet m_taken m_restUp m_restDown k1 l5 l6 l7 l8 l9 0 r_m_found r_m_sumMany r_m_sumShares r_m_sumSet r_m_taken r_m_restUp r_m_restDown r_k1 r_l5 r_l6 r_l7 r_l8 r_l9 (r32_lit _ (by decide)) h
  replace h := h.2 b183
  exact s_X8_findSums_186 g hR hX8 aX8_ups aX8_downs m_many aX8_row m_isSpent aX8_sumMany aX8_sumShares aX8_sumSet aX8_taken aX8_restUp aX8_restDown m_wishes aX8_wished aX8_far aX8_queue m_divided aX8_divisors aX8_least m_pairOne m_pairTwo m_sumUp m_sumDown Q hF K_36 hK_36 m_found m_sumMany m_sumShares m_sumSet m_taken m_restUp m_restDown k1 l5 l6 l7 l8 l9 r_m_found r_m_sumMany r_m_sumShares r_m_sumSet r_m_taken r_m_restUp r_m_restDown r_k1 r_l5 r_l6 r_l7 r_l8 r_l9 h
def wp_X8_findSums_159 (Q : Int → (Int → Int) → (Int → Int) → (Int → Int) → (Int → Int) → (Int → Int) → (Int → Int) → Int → Prop) (K_36 : Int → (Int → Int) → (Int → Int) → (Int → Int) → (Int → Int) → (Int → Int) → (Int → Int) → Int → Int → Int → Int → Int → Int → Int → Prop) (m_found : Int) (m_sumMany : Int → Int) (m_sumShares : Int → Int) (m_sumSet : Int → Int) (m_taken : Int → Int) (m_restUp : Int → Int) (m_restDown : Int → Int) (m_fewest : Int) (l5 : Int) (l6 : Int) (l7 : Int) (l8 : Int) (l9 : Int) : Prop := (r32 (l9 + 1) ∧ wp_X8_findSums_170 Q K_36 m_found m_sumMany m_sumShares m_sumSet m_taken m_restUp m_restDown m_fewest l5 l6 l7 l8 l9 (l9 + 1))
set_option maxHeartbeats 4000000 in
set_option maxRecDepth 100000 in
theorem s_X8_findSums_159 {X : Cx} (g : Gd X cX8_findSums RX8 none 23) (hR : X.R = rmL 2 0 0) (hX8 : Nat) (aX8_ups : Nat) (aX8_downs : Nat) (m_many : Int) (aX8_row : Nat) (m_isSpent : Int) (aX8_sumMany : Nat) (aX8_sumShares : Nat) (aX8_sumSet : Nat) (aX8_taken : Nat) (aX8_restUp : Nat) (aX8_restDown : Nat) (m_wishes : Int) (aX8_wished : Nat) (aX8_far : Nat) (aX8_queue : Nat) (m_divided : Int) (aX8_divisors : Nat) (aX8_least : Nat) (m_pairOne : Int) (m_pairTwo : Int) (m_sumUp : Int) (m_sumDown : Int) (Q : Int → (Int → Int) → (Int → Int) → (Int → Int) → (Int → Int) → (Int → Int) → (Int → Int) → Int → Prop) (hF : FQ X 0 0 (po_X8_findSums X.cI X.cJ hX8 aX8_ups aX8_downs m_many aX8_row m_isSpent aX8_sumMany aX8_sumShares aX8_sumSet aX8_taken aX8_restUp aX8_restDown m_wishes aX8_wished aX8_far aX8_queue m_divided aX8_divisors aX8_least m_pairOne m_pairTwo m_sumUp m_sumDown Q)) (K_36 : Int → (Int → Int) → (Int → Int) → (Int → Int) → (Int → Int) → (Int → Int) → (Int → Int) → Int → Int → Int → Int → Int → Int → Int → Prop) (hK_36 : ∀ (m_found : Int) (m_sumMany : Int → Int) (m_sumShares : Int → Int) (m_sumSet : Int → Int) (m_taken : Int → Int) (m_restUp : Int → Int) (m_restDown : Int → Int) (m_fewest : Int) (l5 : Int) (l6 : Int) (l7 : Int) (l8 : Int) (l9 : Int) (l10 : Int), r32 m_found → rr32 m_sumMany → rr32 m_sumShares → rr64 m_sumSet → rr32 m_taken → rr64 m_restUp → rr64 m_restDown → r32 m_fewest → r32 l5 → r32 l6 → r32 l7 → r32 l8 → r32 l9 → r32 l10 → K_36 m_found m_sumMany m_sumShares m_sumSet m_taken m_restUp m_restDown m_fewest l5 l6 l7 l8 l9 l10 → Wat X 0 0 36 [(0, .ref hX8), (5, .int (i32 l5)), (6, .int (i32 l6)), (7, .int (i32 l7)), (8, .int (i32 l8)), (9, .int (i32 l9)), (10, .int (i32 l10))] [] [(hX8, .inr (7, [.ref aX8_ups, .ref aX8_downs, .int (i32 m_many), .ref aX8_row, .int (i32 m_isSpent), .int (i32 m_found), .ref aX8_sumMany, .ref aX8_sumShares, .ref aX8_sumSet, .ref aX8_taken, .ref aX8_restUp, .ref aX8_restDown, .int (i32 m_fewest), .int (i32 m_wishes), .ref aX8_wished, .ref aX8_far, .ref aX8_queue, .int (i32 m_divided), .ref aX8_divisors, .ref aX8_least, .long (i64 m_pairOne), .long (i64 m_pairTwo), .long (i64 m_sumUp), .long (i64 m_sumDown)])), (aX8_sumMany, aI X.cI 2000 m_sumMany), (aX8_sumShares, aI X.cI 12000 m_sumShares), (aX8_sumSet, aL X.cJ 2000 m_sumSet), (aX8_taken, aI X.cI 7 m_taken), (aX8_restUp, aL X.cJ 8 m_restUp), (aX8_restDown, aL X.cJ 8 m_restDown)]) : ∀ (m_found : Int) (m_sumMany : Int → Int) (m_sumShares : Int → Int) (m_sumSet : Int → Int) (m_taken : Int → Int) (m_restUp : Int → Int) (m_restDown : Int → Int) (m_fewest : Int) (l5 : Int) (l6 : Int) (l7 : Int) (l8 : Int) (l9 : Int), r32 m_found → rr32 m_sumMany → rr32 m_sumShares → rr64 m_sumSet → rr32 m_taken → rr64 m_restUp → rr64 m_restDown → r32 m_fewest → r32 l5 → r32 l6 → r32 l7 → r32 l8 → r32 l9 → wp_X8_findSums_159 Q K_36 m_found m_sumMany m_sumShares m_sumSet m_taken m_restUp m_restDown m_fewest l5 l6 l7 l8 l9 → Wat X 0 0 159 [(0, .ref hX8), (5, .int (i32 l5)), (6, .int (i32 l6)), (7, .int (i32 l7)), (8, .int (i32 l8)), (9, .int (i32 l9))] [.ref hX8] [(hX8, .inr (7, [.ref aX8_ups, .ref aX8_downs, .int (i32 m_many), .ref aX8_row, .int (i32 m_isSpent), .int (i32 m_found), .ref aX8_sumMany, .ref aX8_sumShares, .ref aX8_sumSet, .ref aX8_taken, .ref aX8_restUp, .ref aX8_restDown, .int (i32 m_fewest), .int (i32 m_wishes), .ref aX8_wished, .ref aX8_far, .ref aX8_queue, .int (i32 m_divided), .ref aX8_divisors, .ref aX8_least, .long (i64 m_pairOne), .long (i64 m_pairTwo), .long (i64 m_sumUp), .long (i64 m_sumDown)])), (aX8_sumMany, aI X.cI 2000 m_sumMany), (aX8_sumShares, aI X.cI 12000 m_sumShares), (aX8_sumSet, aL X.cJ 2000 m_sumSet), (aX8_taken, aI X.cI 7 m_taken), (aX8_restUp, aL X.cJ 8 m_restUp), (aX8_restDown, aL X.cJ 8 m_restDown)] := by
  intro m_found m_sumMany m_sumShares m_sumSet m_taken m_restUp m_restDown m_fewest l5 l6 l7 l8 l9 r_m_found r_m_sumMany r_m_sumShares r_m_sumSet r_m_taken r_m_restUp r_m_restDown r_m_fewest r_l5 r_l6 r_l7 r_l8 r_l9 h
  rw [wp_X8_findSums_159] at h
  refine q_iload g 9 5 rfl dX8_findSums_159 ?_
  refine q_iconst g (1) dX8_findSums_161 ?_
  obtain ⟨c162, h⟩ := h
  refine q_iadd g dX8_findSums_162 ?_
  refine q_goto g (7) 170 (by decide) dX8_findSums_163 ?_
  exact s_X8_findSums_170 g hR hX8 aX8_ups aX8_downs m_many aX8_row m_isSpent aX8_sumMany aX8_sumShares aX8_sumSet aX8_taken aX8_restUp aX8_restDown m_wishes aX8_wished aX8_far aX8_queue m_divided aX8_divisors aX8_least m_pairOne m_pairTwo m_sumUp m_sumDown Q hF K_36 hK_36 m_found m_sumMany m_sumShares m_sumSet m_taken m_restUp m_restDown m_fewest l5 l6 l7 l8 l9 (l9 + 1) r_m_found r_m_sumMany r_m_sumShares r_m_sumSet r_m_taken r_m_restUp r_m_restDown r_m_fewest r_l5 r_l6 r_l7 r_l8 r_l9 c162 h
def wp_X8_findSums_115 (Q : Int → (Int → Int) → (Int → Int) → (Int → Int) → (Int → Int) → (Int → Int) → (Int → Int) → Int → Prop) (K_36 : Int → (Int → Int) → (Int → Int) → (Int → Int) → (Int → Int) → (Int → Int) → (Int → Int) → Int → Int → Int → Int → Int → Int → Int → Prop) (m_found : Int) (m_sumMany : Int → Int) (m_sumShares : Int → Int) (m_sumSet : Int → Int) (m_taken : Int → Int) (m_restUp : Int → Int) (m_restDown : Int → Int) (m_fewest : Int) (l5 : Int) (l6 : Int) (l7 : Int) (l8 : Int) (l9 : Int) (l10 : Int) (l11 : Int) (l12 : Int) (l14 : Int) (k0 : Int) : Prop := ((¬ k0 = 0 → (r64 (l12 * l11) ∧ ((¬ (l12 * l11) = l14 → (r64 (l12 * l11) ∧ (((l12 * l11) ≤ l14 → wp_X8_findSums_308 Q K_36 m_found m_sumMany m_sumShares m_sumSet m_taken m_restUp m_restDown m_fewest l5 l6 l7 l8 l9 l10) ∧
  (¬ ((l12 * l11) ≤ l14) → (r32 (l9 + 1) ∧ ((l6 ≤ (l9 + 1) → wp_X8_findSums_308 Q K_36 m_found m_sumMany m_sumShares m_sumSet m_taken m_restUp m_restDown m_fewest l5 l6 l7 l8 l9 l10) ∧
  (¬ (l6 ≤ (l9 + 1)) → (r64 (l12 * l11) ∧ r64 ((l12 * l11) - l14) ∧ ∀ x253 : Int, x253 = ((l12 * l11) - l14) → r64 (l14 * l11) ∧ ∀ x261 : Int, x261 = (l14 * l11) → wp_X8_gcd (fun (x267 : Int) => (r32 (l9 + 1) ∧ 0 < x267 ∧ ∀ x286 : Int, x286 = (x253.tdiv x267) → 0 ≤ (l9 + 1) ∧ (l9 + 1) < 8 ∧ 0 < x267 ∧ ∀ x298 : Int, x298 = (x261.tdiv x267) → 0 ≤ (l9 + 1) ∧ (l9 + 1) < 8 ∧ 0 ≤ (l9 + 1) ∧ (l9 + 1) < 7 ∧ wp_X8_findSums_308 Q K_36 m_found m_sumMany m_sumShares m_sumSet (ups m_taken (l9 + 1) l11) (ups m_restUp (l9 + 1) x286) (ups m_restDown (l9 + 1) x298) m_fewest l5 l6 l7 l8 (l9 + 1) l10)) x253 x261)))))))) ∧
  ((l12 * l11) = l14 → ((m_fewest < 0 → wp_X8_findSums_159 Q K_36 m_found m_sumMany m_sumShares m_sumSet m_taken m_restUp m_restDown m_fewest l5 l6 l7 l8 l9) ∧
  (¬ (m_fewest < 0) → (r32 (l9 + 1) ∧ ((m_fewest ≤ (l9 + 1) → wp_X8_findSums_170 Q K_36 m_found m_sumMany m_sumShares m_sumSet m_taken m_restUp m_restDown m_fewest l5 l6 l7 l8 l9 m_fewest) ∧
  (¬ (m_fewest ≤ (l9 + 1)) → wp_X8_findSums_159 Q K_36 m_found m_sumMany m_sumShares m_sumSet m_taken m_restUp m_restDown m_fewest l5 l6 l7 l8 l9))))))))) ∧
  (k0 = 0 → (r32 (l9 + (-1)) ∧ wp_X8_findSums_308 Q K_36 m_found m_sumMany m_sumShares m_sumSet m_taken m_restUp m_restDown m_fewest l5 l6 l7 l8 (l9 + (-1)) l10)))
set_option maxHeartbeats 4000000 in
set_option maxRecDepth 100000 in
theorem s_X8_findSums_115 {X : Cx} (g : Gd X cX8_findSums RX8 none 23) (hR : X.R = rmL 2 0 0) (hX8 : Nat) (aX8_ups : Nat) (aX8_downs : Nat) (m_many : Int) (aX8_row : Nat) (m_isSpent : Int) (aX8_sumMany : Nat) (aX8_sumShares : Nat) (aX8_sumSet : Nat) (aX8_taken : Nat) (aX8_restUp : Nat) (aX8_restDown : Nat) (m_wishes : Int) (aX8_wished : Nat) (aX8_far : Nat) (aX8_queue : Nat) (m_divided : Int) (aX8_divisors : Nat) (aX8_least : Nat) (m_pairOne : Int) (m_pairTwo : Int) (m_sumUp : Int) (m_sumDown : Int) (Q : Int → (Int → Int) → (Int → Int) → (Int → Int) → (Int → Int) → (Int → Int) → (Int → Int) → Int → Prop) (hF : FQ X 0 0 (po_X8_findSums X.cI X.cJ hX8 aX8_ups aX8_downs m_many aX8_row m_isSpent aX8_sumMany aX8_sumShares aX8_sumSet aX8_taken aX8_restUp aX8_restDown m_wishes aX8_wished aX8_far aX8_queue m_divided aX8_divisors aX8_least m_pairOne m_pairTwo m_sumUp m_sumDown Q)) (K_36 : Int → (Int → Int) → (Int → Int) → (Int → Int) → (Int → Int) → (Int → Int) → (Int → Int) → Int → Int → Int → Int → Int → Int → Int → Prop) (hK_36 : ∀ (m_found : Int) (m_sumMany : Int → Int) (m_sumShares : Int → Int) (m_sumSet : Int → Int) (m_taken : Int → Int) (m_restUp : Int → Int) (m_restDown : Int → Int) (m_fewest : Int) (l5 : Int) (l6 : Int) (l7 : Int) (l8 : Int) (l9 : Int) (l10 : Int), r32 m_found → rr32 m_sumMany → rr32 m_sumShares → rr64 m_sumSet → rr32 m_taken → rr64 m_restUp → rr64 m_restDown → r32 m_fewest → r32 l5 → r32 l6 → r32 l7 → r32 l8 → r32 l9 → r32 l10 → K_36 m_found m_sumMany m_sumShares m_sumSet m_taken m_restUp m_restDown m_fewest l5 l6 l7 l8 l9 l10 → Wat X 0 0 36 [(0, .ref hX8), (5, .int (i32 l5)), (6, .int (i32 l6)), (7, .int (i32 l7)), (8, .int (i32 l8)), (9, .int (i32 l9)), (10, .int (i32 l10))] [] [(hX8, .inr (7, [.ref aX8_ups, .ref aX8_downs, .int (i32 m_many), .ref aX8_row, .int (i32 m_isSpent), .int (i32 m_found), .ref aX8_sumMany, .ref aX8_sumShares, .ref aX8_sumSet, .ref aX8_taken, .ref aX8_restUp, .ref aX8_restDown, .int (i32 m_fewest), .int (i32 m_wishes), .ref aX8_wished, .ref aX8_far, .ref aX8_queue, .int (i32 m_divided), .ref aX8_divisors, .ref aX8_least, .long (i64 m_pairOne), .long (i64 m_pairTwo), .long (i64 m_sumUp), .long (i64 m_sumDown)])), (aX8_sumMany, aI X.cI 2000 m_sumMany), (aX8_sumShares, aI X.cI 12000 m_sumShares), (aX8_sumSet, aL X.cJ 2000 m_sumSet), (aX8_taken, aI X.cI 7 m_taken), (aX8_restUp, aL X.cJ 8 m_restUp), (aX8_restDown, aL X.cJ 8 m_restDown)]) : ∀ (m_found : Int) (m_sumMany : Int → Int) (m_sumShares : Int → Int) (m_sumSet : Int → Int) (m_taken : Int → Int) (m_restUp : Int → Int) (m_restDown : Int → Int) (m_fewest : Int) (l5 : Int) (l6 : Int) (l7 : Int) (l8 : Int) (l9 : Int) (l10 : Int) (l11 : Int) (l12 : Int) (l14 : Int) (k0 : Int), r32 m_found → rr32 m_sumMany → rr32 m_sumShares → rr64 m_sumSet → rr32 m_taken → rr64 m_restUp → rr64 m_restDown → r32 m_fewest → r32 l5 → r32 l6 → r32 l7 → r32 l8 → r32 l9 → r32 l10 → r32 l11 → r64 l12 → r64 l14 → r32 k0 → wp_X8_findSums_115 Q K_36 m_found m_sumMany m_sumShares m_sumSet m_taken m_restUp m_restDown m_fewest l5 l6 l7 l8 l9 l10 l11 l12 l14 k0 → Wat X 0 0 115 [(0, .ref hX8), (5, .int (i32 l5)), (6, .int (i32 l6)), (7, .int (i32 l7)), (8, .int (i32 l8)), (9, .int (i32 l9)), (10, .int (i32 l10)), (11, .int (i32 l11)), (12, .long (i64 l12)), (14, .long (i64 l14))] [.int (i32 k0)] [(hX8, .inr (7, [.ref aX8_ups, .ref aX8_downs, .int (i32 m_many), .ref aX8_row, .int (i32 m_isSpent), .int (i32 m_found), .ref aX8_sumMany, .ref aX8_sumShares, .ref aX8_sumSet, .ref aX8_taken, .ref aX8_restUp, .ref aX8_restDown, .int (i32 m_fewest), .int (i32 m_wishes), .ref aX8_wished, .ref aX8_far, .ref aX8_queue, .int (i32 m_divided), .ref aX8_divisors, .ref aX8_least, .long (i64 m_pairOne), .long (i64 m_pairTwo), .long (i64 m_sumUp), .long (i64 m_sumDown)])), (aX8_sumMany, aI X.cI 2000 m_sumMany), (aX8_sumShares, aI X.cI 12000 m_sumShares), (aX8_sumSet, aL X.cJ 2000 m_sumSet), (aX8_taken, aI X.cI 7 m_taken), (aX8_restUp, aL X.cJ 8 m_restUp), (aX8_restDown, aL X.cJ 8 m_restDown)] := by
  intro m_found m_sumMany m_sumShares m_sumSet m_taken m_restUp m_restDown m_fewest l5 l6 l7 l8 l9 l10 l11 l12 l14 k0 r_m_found r_m_sumMany r_m_sumShares r_m_sumSet r_m_taken r_m_restUp r_m_restDown r_m_fewest r_l5 r_l6 r_l7 r_l8 r_l9 r_l10 r_l11 r_l12 r_l14 r_k0 h
  rw [wp_X8_findSums_115] at h
  refine q_istore (lv' := [(16, .int (i32 k0)), (0, .ref hX8), (5, .int (i32 l5)), (6, .int (i32 l6)), (7, .int (i32 l7)), (8, .int (i32 l8)), (9, .int (i32 l9)), (10, .int (i32 l10)), (11, .int (i32 l11)), (12, .long (i64 l12)), (14, .long (i64 l14))]) g 16   (by decide) rfl dX8_findSums_115 ?_
  refine q_iload g 16 0 rfl dX8_findSums_117 ?_
  refine q_if_ne g (9) 128 r_k0 (by decide) dX8_findSums_119 (fun b119 => ?_) (fun b119 => ?_)
  · replace h := h.1 b119
    refine q_lload g 12 9 rfl dX8_findSums_128 ?_
    refine q_iload g 11 8 rfl dX8_findSums_130 ?_
    refine q_i2l g r_l11 dX8_findSums_132 ?_
    obtain ⟨c133, h⟩ := h
    refine q_lmul g dX8_findSums_133 ?_
    refine q_lload g 14 10 rfl dX8_findSums_134 ?_
    refine q_lcmp_ne g (86) 223 c133 r_l14 (by decide) dX8_findSums_136 dX8_findSums_137 (fun b136 => ?_) (fun b136 => ?_)
    · replace h := h.1 b136
      refine q_lload g 12 9 rfl dX8_findSums_223 ?_
      refine q_iload g 11 8 rfl dX8_findSums_225 ?_
      refine q_i2l g r_l11 dX8_findSums_227 ?_
      obtain ⟨c228, h⟩ := h
      refine q_lmul g dX8_findSums_228 ?_
      refine q_lload g 14 10 rfl dX8_findSums_229 ?_
      refine q_lcmp_le g (76) 308 c228 r_l14 (by decide) dX8_findSums_231 dX8_findSums_232 (fun b231 => ?_) (fun b231 => ?_)
      · replace h := h.1 b231
        refine q_lv (lv' := [(0, .ref hX8), (5, .int (i32 l5)), (6, .int (i32 l6)), (7, .int (i32 l7)), (8, .int (i32 l8)), (9, .int (i32 l9)), (10, .int (i32 l10))]) [1, 2, 3, 4, 5, 6, 7] rfl ?_
        exact s_X8_findSums_308 g hR hX8 aX8_ups aX8_downs m_many aX8_row m_isSpent aX8_sumMany aX8_sumShares aX8_sumSet aX8_taken aX8_restUp aX8_restDown m_wishes aX8_wished aX8_far aX8_queue m_divided aX8_divisors aX8_least m_pairOne m_pairTwo m_sumUp m_sumDown Q hF K_36 hK_36 m_found m_sumMany m_sumShares m_sumSet m_taken m_restUp m_restDown m_fewest l5 l6 l7 l8 l9 l10 r_m_found r_m_sumMany r_m_sumShares r_m_sumSet r_m_taken r_m_restUp r_m_restDown r_m_fewest r_l5 r_l6 r_l7 r_l8 r_l9 r_l10 h
      replace h := h.2 b231
      refine q_iload g 9 6 rfl dX8_findSums_235 ?_
      refine q_iconst g (1) dX8_findSums_237 ?_
      obtain ⟨c238, h⟩ := h
      refine q_iadd g dX8_findSums_238 ?_
      refine q_iload g 6 3 rfl dX8_findSums_239 ?_
      refine q_icmp_ge g (67) 308 c238 r_l6 (by decide) dX8_findSums_241 (fun b241 => ?_) (fun b241 => ?_)
      · replace h := h.1 b241
        refine q_lv (lv' := [(0, .ref hX8), (5, .int (i32 l5)), (6, .int (i32 l6)), (7, .int (i32 l7)), (8, .int (i32 l8)), (9, .int (i32 l9)), (10, .int (i32 l10))]) [1, 2, 3, 4, 5, 6, 7] rfl ?_
        exact s_X8_findSums_308 g hR hX8 aX8_ups aX8_downs m_many aX8_row m_isSpent aX8_sumMany aX8_sumShares aX8_sumSet aX8_taken aX8_restUp aX8_restDown m_wishes aX8_wished aX8_far aX8_queue m_divided aX8_divisors aX8_least m_pairOne m_pairTwo m_sumUp m_sumDown Q hF K_36 hK_36 m_found m_sumMany m_sumShares m_sumSet m_taken m_restUp m_restDown m_fewest l5 l6 l7 l8 l9 l10 r_m_found r_m_sumMany r_m_sumShares r_m_sumSet r_m_taken r_m_restUp r_m_restDown r_m_fewest r_l5 r_l6 r_l7 r_l8 r_l9 r_l10 h
      replace h := h.2 b241
      refine q_lload g 12 9 rfl dX8_findSums_244 ?_
      refine q_iload g 11 8 rfl dX8_findSums_246 ?_
      refine q_i2l g r_l11 dX8_findSums_248 ?_
      obtain ⟨c249, h⟩ := h
      refine q_lmul g dX8_findSums_249 ?_
      refine q_lload g 14 10 rfl dX8_findSums_250 ?_
      obtain ⟨c252, h⟩ := h
      refine q_lsub g dX8_findSums_252 ?_
      refine q_topl c252 (fun x253 ex253 rx253 => ?_)
      replace h := h x253 ex253
      refine q_lstore (lv' := [(17, .long (i64 x253)), (16, .int (i32 k0)), (0, .ref hX8), (5, .int (i32 l5)), (6, .int (i32 l6)), (7, .int (i32 l7)), (8, .int (i32 l8)), (9, .int (i32 l9)), (10, .int (i32 l10)), (11, .int (i32 l11)), (12, .long (i64 l12)), (14, .long (i64 l14))]) g 17   (by decide) rfl dX8_findSums_253 ?_
      refine q_lload g 14 11 rfl dX8_findSums_255 ?_
      refine q_iload g 11 9 rfl dX8_findSums_257 ?_
      refine q_i2l g r_l11 dX8_findSums_259 ?_
      obtain ⟨c260, h⟩ := h
      refine q_lmul g dX8_findSums_260 ?_
      refine q_topl c260 (fun x261 ex261 rx261 => ?_)
      replace h := h x261 ex261
      refine q_lstore (lv' := [(19, .long (i64 x261)), (17, .long (i64 x253)), (16, .int (i32 k0)), (0, .ref hX8), (5, .int (i32 l5)), (6, .int (i32 l6)), (7, .int (i32 l7)), (8, .int (i32 l8)), (9, .int (i32 l9)), (10, .int (i32 l10)), (11, .int (i32 l11)), (12, .long (i64 l12)), (14, .long (i64 l14))]) g 19   (by decide) rfl dX8_findSums_261 ?_
      refine q_lload g 17 1 rfl dX8_findSums_263 ?_
      refine q_lload g 19 0 rfl dX8_findSums_265 ?_
      refine q_callS (lev := 1) (mc := 0) (ms := 0) (As := [.long (i64 x253), .long (i64 x261)]) g 64 (c_X8_gcd X.l X.D X.cI X.cJ X.zt x253 x261 _ rx253 rx261 h) (wr := [(hX8, .inr (7, [.ref aX8_ups, .ref aX8_downs, .int (i32 m_many), .ref aX8_row, .int (i32 m_isSpent), .int (i32 m_found), .ref aX8_sumMany, .ref aX8_sumShares, .ref aX8_sumSet, .ref aX8_taken, .ref aX8_restUp, .ref aX8_restDown, .int (i32 m_fewest), .int (i32 m_wishes), .ref aX8_wished, .ref aX8_far, .ref aX8_queue, .int (i32 m_divided), .ref aX8_divisors, .ref aX8_least, .long (i64 m_pairOne), .long (i64 m_pairTwo), .long (i64 m_sumUp), .long (i64 m_sumDown)])), (aX8_sumMany, aI X.cI 2000 m_sumMany), (aX8_sumShares, aI X.cI 12000 m_sumShares), (aX8_sumSet, aL X.cJ 2000 m_sumSet), (aX8_taken, aI X.cI 7 m_taken), (aX8_restUp, aL X.cJ 8 m_restUp), (aX8_restDown, aL X.cJ 8 m_restDown)]) [] [0, 1, 2, 3, 4, 5, 6] rfl rfl rfl (by decide) (by decide) (by decide) wM_X8_64 wT_X8_gcd wZ_X8 wC_X8_gcd 2 rfl (by decide +kernel) (by rw [hR]; exact ⟨by show 1 + 1 ≤ 2; omega, by show 8 + (10 + 11) + 100 * 1 ≤ 100 * 2; omega⟩) (by rw [hR]; exact ⟨Nat.le_refl _, Nat.le_refl _⟩) (Nat.le_of_ble_eq_true rfl) rfl dX8_findSums_267 (fun rv w1 hq => ?_)
      obtain ⟨x267, rfl, rfl, rx267, h⟩ := hq
      show Wat X 0 0 270 [(19, .long (i64 x261)), (17, .long (i64 x253)), (16, .int (i32 k0)), (0, .ref hX8), (5, .int (i32 l5)), (6, .int (i32 l6)), (7, .int (i32 l7)), (8, .int (i32 l8)), (9, .int (i32 l9)), (10, .int (i32 l10)), (11, .int (i32 l11)), (12, .long (i64 l12)), (14, .long (i64 l14))] [.long (i64 x267)] [(hX8, .inr (7, [.ref aX8_ups, .ref aX8_downs, .int (i32 m_many), .ref aX8_row, .int (i32 m_isSpent), .int (i32 m_found), .ref aX8_sumMany, .ref aX8_sumShares, .ref aX8_sumSet, .ref aX8_taken, .ref aX8_restUp, .ref aX8_restDown, .int (i32 m_fewest), .int (i32 m_wishes), .ref aX8_wished, .ref aX8_far, .ref aX8_queue, .int (i32 m_divided), .ref aX8_divisors, .ref aX8_least, .long (i64 m_pairOne), .long (i64 m_pairTwo), .long (i64 m_sumUp), .long (i64 m_sumDown)])), (aX8_sumMany, aI X.cI 2000 m_sumMany), (aX8_sumShares, aI X.cI 12000 m_sumShares), (aX8_sumSet, aL X.cJ 2000 m_sumSet), (aX8_taken, aI X.cI 7 m_taken), (aX8_restUp, aL X.cJ 8 m_restUp), (aX8_restDown, aL X.cJ 8 m_restDown)]
      refine q_lstore (lv' := [(21, .long (i64 x267)), (19, .long (i64 x261)), (17, .long (i64 x253)), (16, .int (i32 k0)), (0, .ref hX8), (5, .int (i32 l5)), (6, .int (i32 l6)), (7, .int (i32 l7)), (8, .int (i32 l8)), (9, .int (i32 l9)), (10, .int (i32 l10)), (11, .int (i32 l11)), (12, .long (i64 l12)), (14, .long (i64 l14))]) g 21   (by decide) rfl dX8_findSums_270 ?_
      obtain ⟨c272, h⟩ := h
      refine q_iinc (lv' := [(9, .int (i32 (l9 + 1))), (21, .long (i64 x267)), (19, .long (i64 x261)), (17, .long (i64 x253)), (16, .int (i32 k0)), (0, .ref hX8), (5, .int (i32 l5)), (6, .int (i32 l6)), (7, .int (i32 l7)), (8, .int (i32 l8)), (10, .int (i32 l10)), (11, .int (i32 l11)), (12, .long (i64 l12)), (14, .long (i64 l14))]) g 9 9 1 (by decide) rfl rfl dX8_findSums_272 ?_
      refine q_aload_n g 0 5 rfl dX8_findSums_275 ?_
      refine q_get (C := RX8) (T := TX8) (N := 24) g 36 inX8 0 10 rfl rfl (by decide) wF_X8_36 rfl dX8_findSums_276 ?_
      refine q_iload g 9 0 rfl dX8_findSums_279 ?_
      refine q_lload g 17 3 rfl dX8_findSums_281 ?_
      refine q_lload g 21 1 rfl dX8_findSums_283 ?_
      obtain ⟨c285, h⟩ := h
      refine q_ldiv g rx253 rx267 (ne_of_pos c285) dX8_findSums_285 ?_
      refine q_topl (r64_tdiv rx253 c285) (fun x286 ex286 rx286 => ?_)
      replace h := h x286 ex286
      obtain ⟨c286, h⟩ := h
      obtain ⟨e286, h⟩ := h
      refine q_last (ws' := [(hX8, .inr (7, [.ref aX8_ups, .ref aX8_downs, .int (i32 m_many), .ref aX8_row, .int (i32 m_isSpent), .int (i32 m_found), .ref aX8_sumMany, .ref aX8_sumShares, .ref aX8_sumSet, .ref aX8_taken, .ref aX8_restUp, .ref aX8_restDown, .int (i32 m_fewest), .int (i32 m_wishes), .ref aX8_wished, .ref aX8_far, .ref aX8_queue, .int (i32 m_divided), .ref aX8_divisors, .ref aX8_least, .long (i64 m_pairOne), .long (i64 m_pairTwo), .long (i64 m_sumUp), .long (i64 m_sumDown)])), (aX8_sumMany, aI X.cI 2000 m_sumMany), (aX8_sumShares, aI X.cI 12000 m_sumShares), (aX8_sumSet, aL X.cJ 2000 m_sumSet), (aX8_taken, aI X.cI 7 m_taken), (aX8_restUp, aL X.cJ 8 (ups m_restUp (l9 + 1) x286)), (aX8_restDown, aL X.cJ 8 m_restDown)]) g 5 rfl c286 e286 (by decide) rfl dX8_findSums_286 ?_
      refine q_aload_n g 0 5 rfl dX8_findSums_287 ?_
      refine q_get (C := RX8) (T := TX8) (N := 24) g 39 inX8 0 11 rfl rfl (by decide) wF_X8_39 rfl dX8_findSums_288 ?_
      refine q_iload g 9 0 rfl dX8_findSums_291 ?_
      refine q_lload g 19 2 rfl dX8_findSums_293 ?_
      refine q_lload g 21 1 rfl dX8_findSums_295 ?_
      obtain ⟨c297, h⟩ := h
      refine q_ldiv g rx261 rx267 (ne_of_pos c297) dX8_findSums_297 ?_
      refine q_topl (r64_tdiv rx261 c297) (fun x298 ex298 rx298 => ?_)
      replace h := h x298 ex298
      obtain ⟨c298, h⟩ := h
      obtain ⟨e298, h⟩ := h
      refine q_last (ws' := [(hX8, .inr (7, [.ref aX8_ups, .ref aX8_downs, .int (i32 m_many), .ref aX8_row, .int (i32 m_isSpent), .int (i32 m_found), .ref aX8_sumMany, .ref aX8_sumShares, .ref aX8_sumSet, .ref aX8_taken, .ref aX8_restUp, .ref aX8_restDown, .int (i32 m_fewest), .int (i32 m_wishes), .ref aX8_wished, .ref aX8_far, .ref aX8_queue, .int (i32 m_divided), .ref aX8_divisors, .ref aX8_least, .long (i64 m_pairOne), .long (i64 m_pairTwo), .long (i64 m_sumUp), .long (i64 m_sumDown)])), (aX8_sumMany, aI X.cI 2000 m_sumMany), (aX8_sumShares, aI X.cI 12000 m_sumShares), (aX8_sumSet, aL X.cJ 2000 m_sumSet), (aX8_taken, aI X.cI 7 m_taken), (aX8_restUp, aL X.cJ 8 (ups m_restUp (l9 + 1) x286)), (aX8_restDown, aL X.cJ 8 (ups m_restDown (l9 + 1) x298))]) g 6 rfl c298 e298 (by decide) rfl dX8_findSums_298 ?_
      refine q_aload_n g 0 5 rfl dX8_findSums_299 ?_
      refine q_get (C := RX8) (T := TX8) (N := 24) g 33 inX8 0 9 rfl rfl (by decide) wF_X8_33 rfl dX8_findSums_300 ?_
      refine q_iload g 9 0 rfl dX8_findSums_303 ?_
      refine q_iload g 11 11 rfl dX8_findSums_305 ?_
      obtain ⟨c307, h⟩ := h
      obtain ⟨e307, h⟩ := h
      refine q_iast (ws' := [(hX8, .inr (7, [.ref aX8_ups, .ref aX8_downs, .int (i32 m_many), .ref aX8_row, .int (i32 m_isSpent), .int (i32 m_found), .ref aX8_sumMany, .ref aX8_sumShares, .ref aX8_sumSet, .ref aX8_taken, .ref aX8_restUp, .ref aX8_restDown, .int (i32 m_fewest), .int (i32 m_wishes), .ref aX8_wished, .ref aX8_far, .ref aX8_queue, .int (i32 m_divided), .ref aX8_divisors, .ref aX8_least, .long (i64 m_pairOne), .long (i64 m_pairTwo), .long (i64 m_sumUp), .long (i64 m_sumDown)])), (aX8_sumMany, aI X.cI 2000 m_sumMany), (aX8_sumShares, aI X.cI 12000 m_sumShares), (aX8_sumSet, aL X.cJ 2000 m_sumSet), (aX8_taken, aI X.cI 7 (ups m_taken (l9 + 1) l11)), (aX8_restUp, aL X.cJ 8 (ups m_restUp (l9 + 1) x286)), (aX8_restDown, aL X.cJ 8 (ups m_restDown (l9 + 1) x298))]) g 4 rfl c307 e307 (by decide) rfl dX8_findSums_307 ?_
      refine q_lv (lv' := [(0, .ref hX8), (5, .int (i32 l5)), (6, .int (i32 l6)), (7, .int (i32 l7)), (8, .int (i32 l8)), (9, .int (i32 (l9 + 1))), (10, .int (i32 l10))]) [5, 6, 7, 8, 9, 0, 10] rfl ?_
      exact s_X8_findSums_308 g hR hX8 aX8_ups aX8_downs m_many aX8_row m_isSpent aX8_sumMany aX8_sumShares aX8_sumSet aX8_taken aX8_restUp aX8_restDown m_wishes aX8_wished aX8_far aX8_queue m_divided aX8_divisors aX8_least m_pairOne m_pairTwo m_sumUp m_sumDown Q hF K_36 hK_36 m_found m_sumMany m_sumShares m_sumSet (ups m_taken (l9 + 1) l11) (ups m_restUp (l9 + 1) x286) (ups m_restDown (l9 + 1) x298) m_fewest l5 l6 l7 l8 (l9 + 1) l10 r_m_found r_m_sumMany r_m_sumShares r_m_sumSet (rr32_u r_m_taken r_l11) (rr64_u r_m_restUp rx286) (rr64_u r_m_restDown rx298) r_m_fewest r_l5 r_l6 r_l7 r_l8 c272 r_l10 h
    replace h := h.2 b136
    refine q_aload_n g 0 1 rfl dX8_findSums_140 ?_
    refine q_aload_n g 0 1 rfl dX8_findSums_141 ?_
    refine q_get (C := RX8) (T := TX8) (N := 24) g 137 inX8 0 12 rfl rfl (by decide) wF_X8_137 rfl dX8_findSums_142 ?_
    refine q_if_lt g (14) 159 r_m_fewest (by decide) dX8_findSums_145 (fun b145 => ?_) (fun b145 => ?_)
    · replace h := h.1 b145
      refine q_lv (lv' := [(0, .ref hX8), (5, .int (i32 l5)), (6, .int (i32 l6)), (7, .int (i32 l7)), (8, .int (i32 l8)), (9, .int (i32 l9))]) [1, 2, 3, 4, 5, 6] rfl ?_
      exact s_X8_findSums_159 g hR hX8 aX8_ups aX8_downs m_many aX8_row m_isSpent aX8_sumMany aX8_sumShares aX8_sumSet aX8_taken aX8_restUp aX8_restDown m_wishes aX8_wished aX8_far aX8_queue m_divided aX8_divisors aX8_least m_pairOne m_pairTwo m_sumUp m_sumDown Q hF K_36 hK_36 m_found m_sumMany m_sumShares m_sumSet m_taken m_restUp m_restDown m_fewest l5 l6 l7 l8 l9 r_m_found r_m_sumMany r_m_sumShares r_m_sumSet r_m_taken r_m_restUp r_m_restDown r_m_fewest r_l5 r_l6 r_l7 r_l8 r_l9 h
    replace h := h.2 b145
    refine q_iload g 9 6 rfl dX8_findSums_148 ?_
    refine q_iconst g (1) dX8_findSums_150 ?_
    obtain ⟨c151, h⟩ := h
    refine q_iadd g dX8_findSums_151 ?_
    refine q_aload_n g 0 1 rfl dX8_findSums_152 ?_
    refine q_get (C := RX8) (T := TX8) (N := 24) g 137 inX8 0 12 rfl rfl (by decide) wF_X8_137 rfl dX8_findSums_153 ?_
    refine q_icmp_ge g (10) 166 c151 r_m_fewest (by decide) dX8_findSums_156 (fun b156 => ?_) (fun b156 => ?_)
    · replace h := h.1 b156
      refine q_aload_n g 0 1 rfl dX8_findSums_166 ?_
      refine q_get (C := RX8) (T := TX8) (N := 24) g 137 inX8 0 12 rfl rfl (by decide) wF_X8_137 rfl dX8_findSums_167 ?_
      refine q_lv (lv' := [(0, .ref hX8), (5, .int (i32 l5)), (6, .int (i32 l6)), (7, .int (i32 l7)), (8, .int (i32 l8)), (9, .int (i32 l9))]) [1, 2, 3, 4, 5, 6] rfl ?_
      exact s_X8_findSums_170 g hR hX8 aX8_ups aX8_downs m_many aX8_row m_isSpent aX8_sumMany aX8_sumShares aX8_sumSet aX8_taken aX8_restUp aX8_restDown m_wishes aX8_wished aX8_far aX8_queue m_divided aX8_divisors aX8_least m_pairOne m_pairTwo m_sumUp m_sumDown Q hF K_36 hK_36 m_found m_sumMany m_sumShares m_sumSet m_taken m_restUp m_restDown m_fewest l5 l6 l7 l8 l9 m_fewest r_m_found r_m_sumMany r_m_sumShares r_m_sumSet r_m_taken r_m_restUp r_m_restDown r_m_fewest r_l5 r_l6 r_l7 r_l8 r_l9 r_m_fewest h
    replace h := h.2 b156
    refine q_lv (lv' := [(0, .ref hX8), (5, .int (i32 l5)), (6, .int (i32 l6)), (7, .int (i32 l7)), (8, .int (i32 l8)), (9, .int (i32 l9))]) [1, 2, 3, 4, 5, 6] rfl ?_
    exact s_X8_findSums_159 g hR hX8 aX8_ups aX8_downs m_many aX8_row m_isSpent aX8_sumMany aX8_sumShares aX8_sumSet aX8_taken aX8_restUp aX8_restDown m_wishes aX8_wished aX8_far aX8_queue m_divided aX8_divisors aX8_least m_pairOne m_pairTwo m_sumUp m_sumDown Q hF K_36 hK_36 m_found m_sumMany m_sumShares m_sumSet m_taken m_restUp m_restDown m_fewest l5 l6 l7 l8 l9 r_m_found r_m_sumMany r_m_sumShares r_m_sumSet r_m_taken r_m_restUp r_m_restDown r_m_fewest r_l5 r_l6 r_l7 r_l8 r_l9 h
  replace h := h.2 b119
  obtain ⟨c122, h⟩ := h
  refine q_iinc (lv' := [(9, .int (i32 (l9 + (-1)))), (16, .int (i32 k0)), (0, .ref hX8), (5, .int (i32 l5)), (6, .int (i32 l6)), (7, .int (i32 l7)), (8, .int (i32 l8)), (10, .int (i32 l10)), (11, .int (i32 l11)), (12, .long (i64 l12)), (14, .long (i64 l14))]) g 9 6 (-1) (by decide) rfl rfl dX8_findSums_122 ?_
  refine q_goto g (183) 308 (by decide) dX8_findSums_125 ?_
  refine q_lv (lv' := [(0, .ref hX8), (5, .int (i32 l5)), (6, .int (i32 l6)), (7, .int (i32 l7)), (8, .int (i32 l8)), (9, .int (i32 (l9 + (-1)))), (10, .int (i32 l10))]) [2, 3, 4, 5, 6, 0, 7] rfl ?_
  exact s_X8_findSums_308 g hR hX8 aX8_ups aX8_downs m_many aX8_row m_isSpent aX8_sumMany aX8_sumShares aX8_sumSet aX8_taken aX8_restUp aX8_restDown m_wishes aX8_wished aX8_far aX8_queue m_divided aX8_divisors aX8_least m_pairOne m_pairTwo m_sumUp m_sumDown Q hF K_36 hK_36 m_found m_sumMany m_sumShares m_sumSet m_taken m_restUp m_restDown m_fewest l5 l6 l7 l8 (l9 + (-1)) l10 r_m_found r_m_sumMany r_m_sumShares r_m_sumSet r_m_taken r_m_restUp r_m_restDown r_m_fewest r_l5 r_l6 r_l7 r_l8 c122 r_l10 h
def wp_X8_findSums_114 (Q : Int → (Int → Int) → (Int → Int) → (Int → Int) → (Int → Int) → (Int → Int) → (Int → Int) → Int → Prop) (K_36 : Int → (Int → Int) → (Int → Int) → (Int → Int) → (Int → Int) → (Int → Int) → (Int → Int) → Int → Int → Int → Int → Int → Int → Int → Prop) (m_found : Int) (m_sumMany : Int → Int) (m_sumShares : Int → Int) (m_sumSet : Int → Int) (m_taken : Int → Int) (m_restUp : Int → Int) (m_restDown : Int → Int) (m_fewest : Int) (l5 : Int) (l6 : Int) (l7 : Int) (l8 : Int) (l9 : Int) (l10 : Int) (l11 : Int) (l12 : Int) (l14 : Int) : Prop := wp_X8_findSums_115 Q K_36 m_found m_sumMany m_sumShares m_sumSet m_taken m_restUp m_restDown m_fewest l5 l6 l7 l8 l9 l10 l11 l12 l14 0
set_option maxHeartbeats 4000000 in
set_option maxRecDepth 100000 in
theorem s_X8_findSums_114 {X : Cx} (g : Gd X cX8_findSums RX8 none 23) (hR : X.R = rmL 2 0 0) (hX8 : Nat) (aX8_ups : Nat) (aX8_downs : Nat) (m_many : Int) (aX8_row : Nat) (m_isSpent : Int) (aX8_sumMany : Nat) (aX8_sumShares : Nat) (aX8_sumSet : Nat) (aX8_taken : Nat) (aX8_restUp : Nat) (aX8_restDown : Nat) (m_wishes : Int) (aX8_wished : Nat) (aX8_far : Nat) (aX8_queue : Nat) (m_divided : Int) (aX8_divisors : Nat) (aX8_least : Nat) (m_pairOne : Int) (m_pairTwo : Int) (m_sumUp : Int) (m_sumDown : Int) (Q : Int → (Int → Int) → (Int → Int) → (Int → Int) → (Int → Int) → (Int → Int) → (Int → Int) → Int → Prop) (hF : FQ X 0 0 (po_X8_findSums X.cI X.cJ hX8 aX8_ups aX8_downs m_many aX8_row m_isSpent aX8_sumMany aX8_sumShares aX8_sumSet aX8_taken aX8_restUp aX8_restDown m_wishes aX8_wished aX8_far aX8_queue m_divided aX8_divisors aX8_least m_pairOne m_pairTwo m_sumUp m_sumDown Q)) (K_36 : Int → (Int → Int) → (Int → Int) → (Int → Int) → (Int → Int) → (Int → Int) → (Int → Int) → Int → Int → Int → Int → Int → Int → Int → Prop) (hK_36 : ∀ (m_found : Int) (m_sumMany : Int → Int) (m_sumShares : Int → Int) (m_sumSet : Int → Int) (m_taken : Int → Int) (m_restUp : Int → Int) (m_restDown : Int → Int) (m_fewest : Int) (l5 : Int) (l6 : Int) (l7 : Int) (l8 : Int) (l9 : Int) (l10 : Int), r32 m_found → rr32 m_sumMany → rr32 m_sumShares → rr64 m_sumSet → rr32 m_taken → rr64 m_restUp → rr64 m_restDown → r32 m_fewest → r32 l5 → r32 l6 → r32 l7 → r32 l8 → r32 l9 → r32 l10 → K_36 m_found m_sumMany m_sumShares m_sumSet m_taken m_restUp m_restDown m_fewest l5 l6 l7 l8 l9 l10 → Wat X 0 0 36 [(0, .ref hX8), (5, .int (i32 l5)), (6, .int (i32 l6)), (7, .int (i32 l7)), (8, .int (i32 l8)), (9, .int (i32 l9)), (10, .int (i32 l10))] [] [(hX8, .inr (7, [.ref aX8_ups, .ref aX8_downs, .int (i32 m_many), .ref aX8_row, .int (i32 m_isSpent), .int (i32 m_found), .ref aX8_sumMany, .ref aX8_sumShares, .ref aX8_sumSet, .ref aX8_taken, .ref aX8_restUp, .ref aX8_restDown, .int (i32 m_fewest), .int (i32 m_wishes), .ref aX8_wished, .ref aX8_far, .ref aX8_queue, .int (i32 m_divided), .ref aX8_divisors, .ref aX8_least, .long (i64 m_pairOne), .long (i64 m_pairTwo), .long (i64 m_sumUp), .long (i64 m_sumDown)])), (aX8_sumMany, aI X.cI 2000 m_sumMany), (aX8_sumShares, aI X.cI 12000 m_sumShares), (aX8_sumSet, aL X.cJ 2000 m_sumSet), (aX8_taken, aI X.cI 7 m_taken), (aX8_restUp, aL X.cJ 8 m_restUp), (aX8_restDown, aL X.cJ 8 m_restDown)]) : ∀ (m_found : Int) (m_sumMany : Int → Int) (m_sumShares : Int → Int) (m_sumSet : Int → Int) (m_taken : Int → Int) (m_restUp : Int → Int) (m_restDown : Int → Int) (m_fewest : Int) (l5 : Int) (l6 : Int) (l7 : Int) (l8 : Int) (l9 : Int) (l10 : Int) (l11 : Int) (l12 : Int) (l14 : Int), r32 m_found → rr32 m_sumMany → rr32 m_sumShares → rr64 m_sumSet → rr32 m_taken → rr64 m_restUp → rr64 m_restDown → r32 m_fewest → r32 l5 → r32 l6 → r32 l7 → r32 l8 → r32 l9 → r32 l10 → r32 l11 → r64 l12 → r64 l14 → wp_X8_findSums_114 Q K_36 m_found m_sumMany m_sumShares m_sumSet m_taken m_restUp m_restDown m_fewest l5 l6 l7 l8 l9 l10 l11 l12 l14 → Wat X 0 0 114 [(0, .ref hX8), (5, .int (i32 l5)), (6, .int (i32 l6)), (7, .int (i32 l7)), (8, .int (i32 l8)), (9, .int (i32 l9)), (10, .int (i32 l10)), (11, .int (i32 l11)), (12, .long (i64 l12)), (14, .long (i64 l14))] [] [(hX8, .inr (7, [.ref aX8_ups, .ref aX8_downs, .int (i32 m_many), .ref aX8_row, .int (i32 m_isSpent), .int (i32 m_found), .ref aX8_sumMany, .ref aX8_sumShares, .ref aX8_sumSet, .ref aX8_taken, .ref aX8_restUp, .ref aX8_restDown, .int (i32 m_fewest), .int (i32 m_wishes), .ref aX8_wished, .ref aX8_far, .ref aX8_queue, .int (i32 m_divided), .ref aX8_divisors, .ref aX8_least, .long (i64 m_pairOne), .long (i64 m_pairTwo), .long (i64 m_sumUp), .long (i64 m_sumDown)])), (aX8_sumMany, aI X.cI 2000 m_sumMany), (aX8_sumShares, aI X.cI 12000 m_sumShares), (aX8_sumSet, aL X.cJ 2000 m_sumSet), (aX8_taken, aI X.cI 7 m_taken), (aX8_restUp, aL X.cJ 8 m_restUp), (aX8_restDown, aL X.cJ 8 m_restDown)] := by
  intro m_found m_sumMany m_sumShares m_sumSet m_taken m_restUp m_restDown m_fewest l5 l6 l7 l8 l9 l10 l11 l12 l14 r_m_found r_m_sumMany r_m_sumShares r_m_sumSet r_m_taken r_m_restUp r_m_restDown r_m_fewest r_l5 r_l6 r_l7 r_l8 r_l9 r_l10 r_l11 r_l12 r_l14 h
  rw [wp_X8_findSums_114] at h
  refine q_iconst g (0) dX8_findSums_114 ?_
  exact s_X8_findSums_115 g hR hX8 aX8_ups aX8_downs m_many aX8_row m_isSpent aX8_sumMany aX8_sumShares aX8_sumSet aX8_taken aX8_restUp aX8_restDown m_wishes aX8_wished aX8_far aX8_queue m_divided aX8_divisors aX8_least m_pairOne m_pairTwo m_sumUp m_sumDown Q hF K_36 hK_36 m_found m_sumMany m_sumShares m_sumSet m_taken m_restUp m_restDown m_fewest l5 l6 l7 l8 l9 l10 l11 l12 l14 0 r_m_found r_m_sumMany r_m_sumShares r_m_sumSet r_m_taken r_m_restUp r_m_restDown r_m_fewest r_l5 r_l6 r_l7 r_l8 r_l9 r_l10 r_l11 r_l12 r_l14 (r32_lit _ (by decide)) h
def wp_X8_findSums_331 (Q : Int → (Int → Int) → (Int → Int) → (Int → Int) → (Int → Int) → (Int → Int) → (Int → Int) → Int → Prop) (m_found : Int) (m_sumMany : Int → Int) (m_sumShares : Int → Int) (m_sumSet : Int → Int) (m_taken : Int → Int) (m_restUp : Int → Int) (m_restDown : Int → Int) (m_fewest : Int) : Prop := Q m_found m_sumMany m_sumShares m_sumSet m_taken m_restUp m_restDown m_fewest
set_option maxHeartbeats 4000000 in
set_option maxRecDepth 100000 in
theorem s_X8_findSums_331 {X : Cx} (g : Gd X cX8_findSums RX8 none 23) (hR : X.R = rmL 2 0 0) (hX8 : Nat) (aX8_ups : Nat) (aX8_downs : Nat) (m_many : Int) (aX8_row : Nat) (m_isSpent : Int) (aX8_sumMany : Nat) (aX8_sumShares : Nat) (aX8_sumSet : Nat) (aX8_taken : Nat) (aX8_restUp : Nat) (aX8_restDown : Nat) (m_wishes : Int) (aX8_wished : Nat) (aX8_far : Nat) (aX8_queue : Nat) (m_divided : Int) (aX8_divisors : Nat) (aX8_least : Nat) (m_pairOne : Int) (m_pairTwo : Int) (m_sumUp : Int) (m_sumDown : Int) (Q : Int → (Int → Int) → (Int → Int) → (Int → Int) → (Int → Int) → (Int → Int) → (Int → Int) → Int → Prop) (hF : FQ X 0 0 (po_X8_findSums X.cI X.cJ hX8 aX8_ups aX8_downs m_many aX8_row m_isSpent aX8_sumMany aX8_sumShares aX8_sumSet aX8_taken aX8_restUp aX8_restDown m_wishes aX8_wished aX8_far aX8_queue m_divided aX8_divisors aX8_least m_pairOne m_pairTwo m_sumUp m_sumDown Q)) : ∀ (m_found : Int) (m_sumMany : Int → Int) (m_sumShares : Int → Int) (m_sumSet : Int → Int) (m_taken : Int → Int) (m_restUp : Int → Int) (m_restDown : Int → Int) (m_fewest : Int), r32 m_found → rr32 m_sumMany → rr32 m_sumShares → rr64 m_sumSet → rr32 m_taken → rr64 m_restUp → rr64 m_restDown → r32 m_fewest → wp_X8_findSums_331 Q m_found m_sumMany m_sumShares m_sumSet m_taken m_restUp m_restDown m_fewest → Wat X 0 0 331 [] [] [(hX8, .inr (7, [.ref aX8_ups, .ref aX8_downs, .int (i32 m_many), .ref aX8_row, .int (i32 m_isSpent), .int (i32 m_found), .ref aX8_sumMany, .ref aX8_sumShares, .ref aX8_sumSet, .ref aX8_taken, .ref aX8_restUp, .ref aX8_restDown, .int (i32 m_fewest), .int (i32 m_wishes), .ref aX8_wished, .ref aX8_far, .ref aX8_queue, .int (i32 m_divided), .ref aX8_divisors, .ref aX8_least, .long (i64 m_pairOne), .long (i64 m_pairTwo), .long (i64 m_sumUp), .long (i64 m_sumDown)])), (aX8_sumMany, aI X.cI 2000 m_sumMany), (aX8_sumShares, aI X.cI 12000 m_sumShares), (aX8_sumSet, aL X.cJ 2000 m_sumSet), (aX8_taken, aI X.cI 7 m_taken), (aX8_restUp, aL X.cJ 8 m_restUp), (aX8_restDown, aL X.cJ 8 m_restDown)] := by
  intro m_found m_sumMany m_sumShares m_sumSet m_taken m_restUp m_restDown m_fewest r_m_found r_m_sumMany r_m_sumShares r_m_sumSet r_m_taken r_m_restUp r_m_restDown r_m_fewest h
  rw [wp_X8_findSums_331] at h
  exact q_vret g hF ⟨m_found, m_sumMany, m_sumShares, m_sumSet, m_taken, m_restUp, m_restDown, m_fewest, rfl, rfl, r_m_found, r_m_sumMany, r_m_sumShares, r_m_sumSet, r_m_taken, r_m_restUp, r_m_restDown, r_m_fewest, h⟩ dX8_findSums_331
def wp_X8_findSums_328 (Q : Int → (Int → Int) → (Int → Int) → (Int → Int) → (Int → Int) → (Int → Int) → (Int → Int) → Int → Prop) (m_found : Int) (m_sumMany : Int → Int) (m_sumShares : Int → Int) (m_sumSet : Int → Int) (m_taken : Int → Int) (m_restUp : Int → Int) (m_restDown : Int → Int) (m_fewest : Int) (k1 : Int) : Prop := wp_X8_findSums_331 Q k1 m_sumMany m_sumShares m_sumSet m_taken m_restUp m_restDown m_fewest
set_option maxHeartbeats 4000000 in
set_option maxRecDepth 100000 in
theorem s_X8_findSums_328 {X : Cx} (g : Gd X cX8_findSums RX8 none 23) (hR : X.R = rmL 2 0 0) (hX8 : Nat) (aX8_ups : Nat) (aX8_downs : Nat) (m_many : Int) (aX8_row : Nat) (m_isSpent : Int) (aX8_sumMany : Nat) (aX8_sumShares : Nat) (aX8_sumSet : Nat) (aX8_taken : Nat) (aX8_restUp : Nat) (aX8_restDown : Nat) (m_wishes : Int) (aX8_wished : Nat) (aX8_far : Nat) (aX8_queue : Nat) (m_divided : Int) (aX8_divisors : Nat) (aX8_least : Nat) (m_pairOne : Int) (m_pairTwo : Int) (m_sumUp : Int) (m_sumDown : Int) (Q : Int → (Int → Int) → (Int → Int) → (Int → Int) → (Int → Int) → (Int → Int) → (Int → Int) → Int → Prop) (hF : FQ X 0 0 (po_X8_findSums X.cI X.cJ hX8 aX8_ups aX8_downs m_many aX8_row m_isSpent aX8_sumMany aX8_sumShares aX8_sumSet aX8_taken aX8_restUp aX8_restDown m_wishes aX8_wished aX8_far aX8_queue m_divided aX8_divisors aX8_least m_pairOne m_pairTwo m_sumUp m_sumDown Q)) : ∀ (m_found : Int) (m_sumMany : Int → Int) (m_sumShares : Int → Int) (m_sumSet : Int → Int) (m_taken : Int → Int) (m_restUp : Int → Int) (m_restDown : Int → Int) (m_fewest : Int) (k1 : Int), r32 m_found → rr32 m_sumMany → rr32 m_sumShares → rr64 m_sumSet → rr32 m_taken → rr64 m_restUp → rr64 m_restDown → r32 m_fewest → r32 k1 → wp_X8_findSums_328 Q m_found m_sumMany m_sumShares m_sumSet m_taken m_restUp m_restDown m_fewest k1 → Wat X 0 0 328 [] [.int (i32 k1), .ref hX8] [(hX8, .inr (7, [.ref aX8_ups, .ref aX8_downs, .int (i32 m_many), .ref aX8_row, .int (i32 m_isSpent), .int (i32 m_found), .ref aX8_sumMany, .ref aX8_sumShares, .ref aX8_sumSet, .ref aX8_taken, .ref aX8_restUp, .ref aX8_restDown, .int (i32 m_fewest), .int (i32 m_wishes), .ref aX8_wished, .ref aX8_far, .ref aX8_queue, .int (i32 m_divided), .ref aX8_divisors, .ref aX8_least, .long (i64 m_pairOne), .long (i64 m_pairTwo), .long (i64 m_sumUp), .long (i64 m_sumDown)])), (aX8_sumMany, aI X.cI 2000 m_sumMany), (aX8_sumShares, aI X.cI 12000 m_sumShares), (aX8_sumSet, aL X.cJ 2000 m_sumSet), (aX8_taken, aI X.cI 7 m_taken), (aX8_restUp, aL X.cJ 8 m_restUp), (aX8_restDown, aL X.cJ 8 m_restDown)] := by
  intro m_found m_sumMany m_sumShares m_sumSet m_taken m_restUp m_restDown m_fewest k1 r_m_found r_m_sumMany r_m_sumShares r_m_sumSet r_m_taken r_m_restUp r_m_restDown r_m_fewest r_k1 h
  rw [wp_X8_findSums_328] at h
  refine q_put (C := RX8) (T := TX8) (N := 24) (ty := .int) (ws' := [(hX8, .inr (7, [.ref aX8_ups, .ref aX8_downs, .int (i32 m_many), .ref aX8_row, .int (i32 m_isSpent), .int (i32 k1), .ref aX8_sumMany, .ref aX8_sumShares, .ref aX8_sumSet, .ref aX8_taken, .ref aX8_restUp, .ref aX8_restDown, .int (i32 m_fewest), .int (i32 m_wishes), .ref aX8_wished, .ref aX8_far, .ref aX8_queue, .int (i32 m_divided), .ref aX8_divisors, .ref aX8_least, .long (i64 m_pairOne), .long (i64 m_pairTwo), .long (i64 m_sumUp), .long (i64 m_sumDown)])), (aX8_sumMany, aI X.cI 2000 m_sumMany), (aX8_sumShares, aI X.cI 12000 m_sumShares), (aX8_sumSet, aL X.cJ 2000 m_sumSet), (aX8_taken, aI X.cI 7 m_taken), (aX8_restUp, aL X.cJ 8 m_restUp), (aX8_restDown, aL X.cJ 8 m_restDown)]) g 20 inX8 tyX8_ok nmX8 0 5 rfl rfl (by decide) wF_X8_20 rfl rfl rfl rfl (Nat.le_of_ble_eq_true rfl) rfl dX8_findSums_328 ?_
  exact s_X8_findSums_331 g hR hX8 aX8_ups aX8_downs m_many aX8_row m_isSpent aX8_sumMany aX8_sumShares aX8_sumSet aX8_taken aX8_restUp aX8_restDown m_wishes aX8_wished aX8_far aX8_queue m_divided aX8_divisors aX8_least m_pairOne m_pairTwo m_sumUp m_sumDown Q hF k1 m_sumMany m_sumShares m_sumSet m_taken m_restUp m_restDown m_fewest r_k1 r_m_sumMany r_m_sumShares r_m_sumSet r_m_taken r_m_restUp r_m_restDown r_m_fewest h
def wp_X8_findSums_311 (Q : Int → (Int → Int) → (Int → Int) → (Int → Int) → (Int → Int) → (Int → Int) → (Int → Int) → Int → Prop) (m_found : Int) (m_sumMany : Int → Int) (m_sumShares : Int → Int) (m_sumSet : Int → Int) (m_taken : Int → Int) (m_restUp : Int → Int) (m_restDown : Int → Int) (m_fewest : Int) (l7 : Int) (l8 : Int) (l10 : Int) : Prop := ((l7 = 0 → wp_X8_findSums_331 Q m_found m_sumMany m_sumShares m_sumSet m_taken m_restUp m_restDown m_fewest) ∧
  (¬ (l7 = 0) → ((l10 = 0 → wp_X8_findSums_328 Q m_found m_sumMany m_sumShares m_sumSet m_taken m_restUp m_restDown m_fewest (-1)) ∧
  (¬ (l10 = 0) → wp_X8_findSums_328 Q m_found m_sumMany m_sumShares m_sumSet m_taken m_restUp m_restDown m_fewest l8))))
set_option maxHeartbeats 4000000 in
set_option maxRecDepth 100000 in
theorem s_X8_findSums_311 {X : Cx} (g : Gd X cX8_findSums RX8 none 23) (hR : X.R = rmL 2 0 0) (hX8 : Nat) (aX8_ups : Nat) (aX8_downs : Nat) (m_many : Int) (aX8_row : Nat) (m_isSpent : Int) (aX8_sumMany : Nat) (aX8_sumShares : Nat) (aX8_sumSet : Nat) (aX8_taken : Nat) (aX8_restUp : Nat) (aX8_restDown : Nat) (m_wishes : Int) (aX8_wished : Nat) (aX8_far : Nat) (aX8_queue : Nat) (m_divided : Int) (aX8_divisors : Nat) (aX8_least : Nat) (m_pairOne : Int) (m_pairTwo : Int) (m_sumUp : Int) (m_sumDown : Int) (Q : Int → (Int → Int) → (Int → Int) → (Int → Int) → (Int → Int) → (Int → Int) → (Int → Int) → Int → Prop) (hF : FQ X 0 0 (po_X8_findSums X.cI X.cJ hX8 aX8_ups aX8_downs m_many aX8_row m_isSpent aX8_sumMany aX8_sumShares aX8_sumSet aX8_taken aX8_restUp aX8_restDown m_wishes aX8_wished aX8_far aX8_queue m_divided aX8_divisors aX8_least m_pairOne m_pairTwo m_sumUp m_sumDown Q)) : ∀ (m_found : Int) (m_sumMany : Int → Int) (m_sumShares : Int → Int) (m_sumSet : Int → Int) (m_taken : Int → Int) (m_restUp : Int → Int) (m_restDown : Int → Int) (m_fewest : Int) (l7 : Int) (l8 : Int) (l10 : Int), r32 m_found → rr32 m_sumMany → rr32 m_sumShares → rr64 m_sumSet → rr32 m_taken → rr64 m_restUp → rr64 m_restDown → r32 m_fewest → r32 l7 → r32 l8 → r32 l10 → wp_X8_findSums_311 Q m_found m_sumMany m_sumShares m_sumSet m_taken m_restUp m_restDown m_fewest l7 l8 l10 → Wat X 0 0 311 [(0, .ref hX8), (7, .int (i32 l7)), (8, .int (i32 l8)), (10, .int (i32 l10))] [] [(hX8, .inr (7, [.ref aX8_ups, .ref aX8_downs, .int (i32 m_many), .ref aX8_row, .int (i32 m_isSpent), .int (i32 m_found), .ref aX8_sumMany, .ref aX8_sumShares, .ref aX8_sumSet, .ref aX8_taken, .ref aX8_restUp, .ref aX8_restDown, .int (i32 m_fewest), .int (i32 m_wishes), .ref aX8_wished, .ref aX8_far, .ref aX8_queue, .int (i32 m_divided), .ref aX8_divisors, .ref aX8_least, .long (i64 m_pairOne), .long (i64 m_pairTwo), .long (i64 m_sumUp), .long (i64 m_sumDown)])), (aX8_sumMany, aI X.cI 2000 m_sumMany), (aX8_sumShares, aI X.cI 12000 m_sumShares), (aX8_sumSet, aL X.cJ 2000 m_sumSet), (aX8_taken, aI X.cI 7 m_taken), (aX8_restUp, aL X.cJ 8 m_restUp), (aX8_restDown, aL X.cJ 8 m_restDown)] := by
  intro m_found m_sumMany m_sumShares m_sumSet m_taken m_restUp m_restDown m_fewest l7 l8 l10 r_m_found r_m_sumMany r_m_sumShares r_m_sumSet r_m_taken r_m_restUp r_m_restDown r_m_fewest r_l7 r_l8 r_l10 h
  rw [wp_X8_findSums_311] at h
  refine q_iload g 7 1 rfl dX8_findSums_311 ?_
  refine q_if_eq g (18) 331 r_l7 (by decide) dX8_findSums_313 (fun b313 => ?_) (fun b313 => ?_)
  · replace h := h.1 b313
    refine q_lv (lv' := []) [] rfl ?_
    exact s_X8_findSums_331 g hR hX8 aX8_ups aX8_downs m_many aX8_row m_isSpent aX8_sumMany aX8_sumShares aX8_sumSet aX8_taken aX8_restUp aX8_restDown m_wishes aX8_wished aX8_far aX8_queue m_divided aX8_divisors aX8_least m_pairOne m_pairTwo m_sumUp m_sumDown Q hF m_found m_sumMany m_sumShares m_sumSet m_taken m_restUp m_restDown m_fewest r_m_found r_m_sumMany r_m_sumShares r_m_sumSet r_m_taken r_m_restUp r_m_restDown r_m_fewest h
  replace h := h.2 b313
  refine q_aload_n g 0 0 rfl dX8_findSums_316 ?_
  refine q_iload g 10 3 rfl dX8_findSums_317 ?_
  refine q_if_eq g (8) 327 r_l10 (by decide) dX8_findSums_319 (fun b319 => ?_) (fun b319 => ?_)
  · replace h := h.1 b319
    refine q_iconst g (-1) dX8_findSums_327 ?_
    refine q_lv (lv' := []) [] rfl ?_
    exact s_X8_findSums_328 g hR hX8 aX8_ups aX8_downs m_many aX8_row m_isSpent aX8_sumMany aX8_sumShares aX8_sumSet aX8_taken aX8_restUp aX8_restDown m_wishes aX8_wished aX8_far aX8_queue m_divided aX8_divisors aX8_least m_pairOne m_pairTwo m_sumUp m_sumDown Q hF m_found m_sumMany m_sumShares m_sumSet m_taken m_restUp m_restDown m_fewest (-1) r_m_found r_m_sumMany r_m_sumShares r_m_sumSet r_m_taken r_m_restUp r_m_restDown r_m_fewest (r32_lit _ (by decide)) h
  replace h := h.2 b319
  refine q_iload g 8 2 rfl dX8_findSums_322 ?_
  refine q_goto g (4) 328 (by decide) dX8_findSums_324 ?_
  refine q_lv (lv' := []) [] rfl ?_
  exact s_X8_findSums_328 g hR hX8 aX8_ups aX8_downs m_many aX8_row m_isSpent aX8_sumMany aX8_sumShares aX8_sumSet aX8_taken aX8_restUp aX8_restDown m_wishes aX8_wished aX8_far aX8_queue m_divided aX8_divisors aX8_least m_pairOne m_pairTwo m_sumUp m_sumDown Q hF m_found m_sumMany m_sumShares m_sumSet m_taken m_restUp m_restDown m_fewest l8 r_m_found r_m_sumMany r_m_sumShares r_m_sumSet r_m_taken r_m_restUp r_m_restDown r_m_fewest r_l8 h
def wp_X8_findSums_36 (Q : Int → (Int → Int) → (Int → Int) → (Int → Int) → (Int → Int) → (Int → Int) → (Int → Int) → Int → Prop) : Nat → Int → (Int → Int) → (Int → Int) → (Int → Int) → (Int → Int) → (Int → Int) → (Int → Int) → Int → Int → Int → Int → Int → Int → Int → Prop
  | 0, _, _, _, _, _, _, _, _, _, _, _, _, _, _ => False
  | n + 1, m_found, m_sumMany, m_sumShares, m_sumSet, m_taken, m_restUp, m_restDown, m_fewest, l5, l6, l7, l8, l9, l10 => ((l9 < 0 → wp_X8_findSums_311 Q m_found m_sumMany m_sumShares m_sumSet m_taken m_restUp m_restDown m_fewest l7 l8 l10) ∧
  (¬ (l9 < 0) → ((l10 = 0 → wp_X8_findSums_311 Q m_found m_sumMany m_sumShares m_sumSet m_taken m_restUp m_restDown m_fewest l7 l8 l10) ∧
  (¬ (l10 = 0) → (0 ≤ l9 ∧ l9 < 7 ∧ r32 ((m_taken l9) + 1) ∧ ∀ x56 : Int, x56 = ((m_taken l9) + 1) → 0 ≤ l9 ∧ l9 < 7 ∧ 0 ≤ l9 ∧ l9 < 7 ∧ ∀ x64 : Int, x64 = ((ups m_taken l9 x56) l9) → 0 ≤ l9 ∧ l9 < 8 ∧ ∀ x73 : Int, x73 = (m_restUp l9) → 0 ≤ l9 ∧ l9 < 8 ∧ ∀ x82 : Int, x82 = (m_restDown l9) → ((l5 < x64 → wp_X8_findSums_114 Q (wp_X8_findSums_36 Q n) m_found m_sumMany m_sumShares m_sumSet (ups m_taken l9 x56) m_restUp m_restDown m_fewest l5 l6 l7 l8 l9 l10 x64 x73 x82) ∧
  (¬ (l5 < x64) → (r64 (x73 * x64) ∧ r32 (l6 - l9) ∧ r64 (x82 * (l6 - l9)) ∧ (((x82 * (l6 - l9)) < (x73 * x64) → wp_X8_findSums_114 Q (wp_X8_findSums_36 Q n) m_found m_sumMany m_sumShares m_sumSet (ups m_taken l9 x56) m_restUp m_restDown m_fewest l5 l6 l7 l8 l9 l10 x64 x73 x82) ∧
  (¬ ((x82 * (l6 - l9)) < (x73 * x64)) → wp_X8_findSums_115 Q (wp_X8_findSums_36 Q n) m_found m_sumMany m_sumShares m_sumSet (ups m_taken l9 x56) m_restUp m_restDown m_fewest l5 l6 l7 l8 l9 l10 x64 x73 x82 1))))))))))
set_option maxHeartbeats 4000000 in
set_option maxRecDepth 100000 in
theorem s_X8_findSums_36 {X : Cx} (g : Gd X cX8_findSums RX8 none 23) (hR : X.R = rmL 2 0 0) (hX8 : Nat) (aX8_ups : Nat) (aX8_downs : Nat) (m_many : Int) (aX8_row : Nat) (m_isSpent : Int) (aX8_sumMany : Nat) (aX8_sumShares : Nat) (aX8_sumSet : Nat) (aX8_taken : Nat) (aX8_restUp : Nat) (aX8_restDown : Nat) (m_wishes : Int) (aX8_wished : Nat) (aX8_far : Nat) (aX8_queue : Nat) (m_divided : Int) (aX8_divisors : Nat) (aX8_least : Nat) (m_pairOne : Int) (m_pairTwo : Int) (m_sumUp : Int) (m_sumDown : Int) (Q : Int → (Int → Int) → (Int → Int) → (Int → Int) → (Int → Int) → (Int → Int) → (Int → Int) → Int → Prop) (hF : FQ X 0 0 (po_X8_findSums X.cI X.cJ hX8 aX8_ups aX8_downs m_many aX8_row m_isSpent aX8_sumMany aX8_sumShares aX8_sumSet aX8_taken aX8_restUp aX8_restDown m_wishes aX8_wished aX8_far aX8_queue m_divided aX8_divisors aX8_least m_pairOne m_pairTwo m_sumUp m_sumDown Q)) : ∀ (n : Nat) (m_found : Int) (m_sumMany : Int → Int) (m_sumShares : Int → Int) (m_sumSet : Int → Int) (m_taken : Int → Int) (m_restUp : Int → Int) (m_restDown : Int → Int) (m_fewest : Int) (l5 : Int) (l6 : Int) (l7 : Int) (l8 : Int) (l9 : Int) (l10 : Int), r32 m_found → rr32 m_sumMany → rr32 m_sumShares → rr64 m_sumSet → rr32 m_taken → rr64 m_restUp → rr64 m_restDown → r32 m_fewest → r32 l5 → r32 l6 → r32 l7 → r32 l8 → r32 l9 → r32 l10 → wp_X8_findSums_36 Q n m_found m_sumMany m_sumShares m_sumSet m_taken m_restUp m_restDown m_fewest l5 l6 l7 l8 l9 l10 → Wat X 0 0 36 [(0, .ref hX8), (5, .int (i32 l5)), (6, .int (i32 l6)), (7, .int (i32 l7)), (8, .int (i32 l8)), (9, .int (i32 l9)), (10, .int (i32 l10))] [] [(hX8, .inr (7, [.ref aX8_ups, .ref aX8_downs, .int (i32 m_many), .ref aX8_row, .int (i32 m_isSpent), .int (i32 m_found), .ref aX8_sumMany, .ref aX8_sumShares, .ref aX8_sumSet, .ref aX8_taken, .ref aX8_restUp, .ref aX8_restDown, .int (i32 m_fewest), .int (i32 m_wishes), .ref aX8_wished, .ref aX8_far, .ref aX8_queue, .int (i32 m_divided), .ref aX8_divisors, .ref aX8_least, .long (i64 m_pairOne), .long (i64 m_pairTwo), .long (i64 m_sumUp), .long (i64 m_sumDown)])), (aX8_sumMany, aI X.cI 2000 m_sumMany), (aX8_sumShares, aI X.cI 12000 m_sumShares), (aX8_sumSet, aL X.cJ 2000 m_sumSet), (aX8_taken, aI X.cI 7 m_taken), (aX8_restUp, aL X.cJ 8 m_restUp), (aX8_restDown, aL X.cJ 8 m_restDown)] := by
  intro n
  induction n with
  | zero => intro m_found m_sumMany m_sumShares m_sumSet m_taken m_restUp m_restDown m_fewest l5 l6 l7 l8 l9 l10 r_m_found r_m_sumMany r_m_sumShares r_m_sumSet r_m_taken r_m_restUp r_m_restDown r_m_fewest r_l5 r_l6 r_l7 r_l8 r_l9 r_l10 h; exact False.elim h
  | succ n ih =>
    intro m_found m_sumMany m_sumShares m_sumSet m_taken m_restUp m_restDown m_fewest l5 l6 l7 l8 l9 l10 r_m_found r_m_sumMany r_m_sumShares r_m_sumSet r_m_taken r_m_restUp r_m_restDown r_m_fewest r_l5 r_l6 r_l7 r_l8 r_l9 r_l10 h
    rw [wp_X8_findSums_36] at h
    refine q_iload g 9 5 rfl dX8_findSums_36 ?_
    refine q_if_lt g (273) 311 r_l9 (by decide) dX8_findSums_38 (fun b38 => ?_) (fun b38 => ?_)
    · replace h := h.1 b38
      refine q_lv (lv' := [(0, .ref hX8), (7, .int (i32 l7)), (8, .int (i32 l8)), (10, .int (i32 l10))]) [0, 3, 4, 6] rfl ?_
      exact s_X8_findSums_311 g hR hX8 aX8_ups aX8_downs m_many aX8_row m_isSpent aX8_sumMany aX8_sumShares aX8_sumSet aX8_taken aX8_restUp aX8_restDown m_wishes aX8_wished aX8_far aX8_queue m_divided aX8_divisors aX8_least m_pairOne m_pairTwo m_sumUp m_sumDown Q hF m_found m_sumMany m_sumShares m_sumSet m_taken m_restUp m_restDown m_fewest l7 l8 l10 r_m_found r_m_sumMany r_m_sumShares r_m_sumSet r_m_taken r_m_restUp r_m_restDown r_m_fewest r_l7 r_l8 r_l10 h
    replace h := h.2 b38
    refine q_iload g 10 6 rfl dX8_findSums_41 ?_
    refine q_if_eq g (268) 311 r_l10 (by decide) dX8_findSums_43 (fun b43 => ?_) (fun b43 => ?_)
    · replace h := h.1 b43
      refine q_lv (lv' := [(0, .ref hX8), (7, .int (i32 l7)), (8, .int (i32 l8)), (10, .int (i32 l10))]) [0, 3, 4, 6] rfl ?_
      exact s_X8_findSums_311 g hR hX8 aX8_ups aX8_downs m_many aX8_row m_isSpent aX8_sumMany aX8_sumShares aX8_sumSet aX8_taken aX8_restUp aX8_restDown m_wishes aX8_wished aX8_far aX8_queue m_divided aX8_divisors aX8_least m_pairOne m_pairTwo m_sumUp m_sumDown Q hF m_found m_sumMany m_sumShares m_sumSet m_taken m_restUp m_restDown m_fewest l7 l8 l10 r_m_found r_m_sumMany r_m_sumShares r_m_sumSet r_m_taken r_m_restUp r_m_restDown r_m_fewest r_l7 r_l8 r_l10 h
    replace h := h.2 b43
    refine q_aload_n g 0 0 rfl dX8_findSums_46 ?_
    refine q_get (C := RX8) (T := TX8) (N := 24) g 33 inX8 0 9 rfl rfl (by decide) wF_X8_33 rfl dX8_findSums_47 ?_
    refine q_iload g 9 5 rfl dX8_findSums_50 ?_
    refine q_dup2 g rfl rfl dX8_findSums_52 ?_
    obtain ⟨c53, h⟩ := h
    obtain ⟨e53, h⟩ := h
    refine q_iald g 4 rfl c53 e53 (by decide) dX8_findSums_53 ?_
    refine q_iconst g (1) dX8_findSums_54 ?_
    obtain ⟨c55, h⟩ := h
    refine q_iadd g dX8_findSums_55 ?_
    refine q_topi c55 (fun x56 ex56 rx56 => ?_)
    replace h := h x56 ex56
    obtain ⟨c56, h⟩ := h
    obtain ⟨e56, h⟩ := h
    refine q_iast (ws' := [(hX8, .inr (7, [.ref aX8_ups, .ref aX8_downs, .int (i32 m_many), .ref aX8_row, .int (i32 m_isSpent), .int (i32 m_found), .ref aX8_sumMany, .ref aX8_sumShares, .ref aX8_sumSet, .ref aX8_taken, .ref aX8_restUp, .ref aX8_restDown, .int (i32 m_fewest), .int (i32 m_wishes), .ref aX8_wished, .ref aX8_far, .ref aX8_queue, .int (i32 m_divided), .ref aX8_divisors, .ref aX8_least, .long (i64 m_pairOne), .long (i64 m_pairTwo), .long (i64 m_sumUp), .long (i64 m_sumDown)])), (aX8_sumMany, aI X.cI 2000 m_sumMany), (aX8_sumShares, aI X.cI 12000 m_sumShares), (aX8_sumSet, aL X.cJ 2000 m_sumSet), (aX8_taken, aI X.cI 7 (ups m_taken l9 x56)), (aX8_restUp, aL X.cJ 8 m_restUp), (aX8_restDown, aL X.cJ 8 m_restDown)]) g 4 rfl c56 e56 (by decide) rfl dX8_findSums_56 ?_
    refine q_aload_n g 0 0 rfl dX8_findSums_57 ?_
    refine q_get (C := RX8) (T := TX8) (N := 24) g 33 inX8 0 9 rfl rfl (by decide) wF_X8_33 rfl dX8_findSums_58 ?_
    refine q_iload g 9 5 rfl dX8_findSums_61 ?_
    obtain ⟨c63, h⟩ := h
    obtain ⟨e63, h⟩ := h
    refine q_iald g 4 rfl c63 e63 (by decide) dX8_findSums_63 ?_
    refine q_topi ((rr32_u r_m_taken rx56) _) (fun x64 ex64 rx64 => ?_)
    replace h := h x64 ex64
    refine q_istore (lv' := [(11, .int (i32 x64)), (0, .ref hX8), (5, .int (i32 l5)), (6, .int (i32 l6)), (7, .int (i32 l7)), (8, .int (i32 l8)), (9, .int (i32 l9)), (10, .int (i32 l10))]) g 11   (by decide) rfl dX8_findSums_64 ?_
    refine q_aload_n g 0 1 rfl dX8_findSums_66 ?_
    refine q_get (C := RX8) (T := TX8) (N := 24) g 36 inX8 0 10 rfl rfl (by decide) wF_X8_36 rfl dX8_findSums_67 ?_
    refine q_iload g 9 6 rfl dX8_findSums_70 ?_
    obtain ⟨c72, h⟩ := h
    obtain ⟨e72, h⟩ := h
    refine q_lald g 5 rfl c72 e72 (by decide) dX8_findSums_72 ?_
    refine q_topl (r_m_restUp _) (fun x73 ex73 rx73 => ?_)
    replace h := h x73 ex73
    refine q_lstore (lv' := [(12, .long (i64 x73)), (11, .int (i32 x64)), (0, .ref hX8), (5, .int (i32 l5)), (6, .int (i32 l6)), (7, .int (i32 l7)), (8, .int (i32 l8)), (9, .int (i32 l9)), (10, .int (i32 l10))]) g 12   (by decide) rfl dX8_findSums_73 ?_
    refine q_aload_n g 0 2 rfl dX8_findSums_75 ?_
    refine q_get (C := RX8) (T := TX8) (N := 24) g 39 inX8 0 11 rfl rfl (by decide) wF_X8_39 rfl dX8_findSums_76 ?_
    refine q_iload g 9 7 rfl dX8_findSums_79 ?_
    obtain ⟨c81, h⟩ := h
    obtain ⟨e81, h⟩ := h
    refine q_lald g 6 rfl c81 e81 (by decide) dX8_findSums_81 ?_
    refine q_topl (r_m_restDown _) (fun x82 ex82 rx82 => ?_)
    replace h := h x82 ex82
    refine q_lstore (lv' := [(14, .long (i64 x82)), (12, .long (i64 x73)), (11, .int (i32 x64)), (0, .ref hX8), (5, .int (i32 l5)), (6, .int (i32 l6)), (7, .int (i32 l7)), (8, .int (i32 l8)), (9, .int (i32 l9)), (10, .int (i32 l10))]) g 14   (by decide) rfl dX8_findSums_82 ?_
    refine q_iload g 11 2 rfl dX8_findSums_84 ?_
    refine q_iload g 5 4 rfl dX8_findSums_86 ?_
    refine q_icmp_gt g (26) 114 rx64 r_l5 (by decide) dX8_findSums_88 (fun b88 => ?_) (fun b88 => ?_)
    · replace h := h.1 b88
      refine q_lv (lv' := [(0, .ref hX8), (5, .int (i32 l5)), (6, .int (i32 l6)), (7, .int (i32 l7)), (8, .int (i32 l8)), (9, .int (i32 l9)), (10, .int (i32 l10)), (11, .int (i32 x64)), (12, .long (i64 x73)), (14, .long (i64 x82))]) [3, 4, 5, 6, 7, 8, 9, 2, 1, 0] rfl ?_
      exact s_X8_findSums_114 g hR hX8 aX8_ups aX8_downs m_many aX8_row m_isSpent aX8_sumMany aX8_sumShares aX8_sumSet aX8_taken aX8_restUp aX8_restDown m_wishes aX8_wished aX8_far aX8_queue m_divided aX8_divisors aX8_least m_pairOne m_pairTwo m_sumUp m_sumDown Q hF (wp_X8_findSums_36 Q n) (fun v0 v1 v2 v3 v4 v5 v6 v7 v8 v9 v10 v11 v12 v13 w0 w1 w2 w3 w4 w5 w6 w7 w8 w9 w10 w11 w12 w13 hh => ih v0 v1 v2 v3 v4 v5 v6 v7 v8 v9 v10 v11 v12 v13 w0 w1 w2 w3 w4 w5 w6 w7 w8 w9 w10 w11 w12 w13 hh) m_found m_sumMany m_sumShares m_sumSet (ups m_taken l9 x56) m_restUp m_restDown m_fewest l5 l6 l7 l8 l9 l10 x64 x73 x82 r_m_found r_m_sumMany r_m_sumShares r_m_sumSet (rr32_u r_m_taken rx56) r_m_restUp r_m_restDown r_m_fewest r_l5 r_l6 r_l7 r_l8 r_l9 r_l10 rx64 rx73 rx82 h
    replace h := h.2 b88
    refine q_lload g 12 1 rfl dX8_findSums_91 ?_
    refine q_iload g 11 2 rfl dX8_findSums_93 ?_
    refine q_i2l g rx64 dX8_findSums_95 ?_
    obtain ⟨c96, h⟩ := h
    refine q_lmul g dX8_findSums_96 ?_
    refine q_lload g 14 0 rfl dX8_findSums_97 ?_
    refine q_iload g 6 5 rfl dX8_findSums_99 ?_
    refine q_iload g 9 8 rfl dX8_findSums_101 ?_
    obtain ⟨c103, h⟩ := h
    refine q_isub g dX8_findSums_103 ?_
    refine q_i2l g c103 dX8_findSums_104 ?_
    obtain ⟨c105, h⟩ := h
    refine q_lmul g dX8_findSums_105 ?_
    refine q_lcmp_gt g (7) 114 c96 c105 (by decide) dX8_findSums_106 dX8_findSums_107 (fun b106 => ?_) (fun b106 => ?_)
    · replace h := h.1 b106
      refine q_lv (lv' := [(0, .ref hX8), (5, .int (i32 l5)), (6, .int (i32 l6)), (7, .int (i32 l7)), (8, .int (i32 l8)), (9, .int (i32 l9)), (10, .int (i32 l10)), (11, .int (i32 x64)), (12, .long (i64 x73)), (14, .long (i64 x82))]) [3, 4, 5, 6, 7, 8, 9, 2, 1, 0] rfl ?_
      exact s_X8_findSums_114 g hR hX8 aX8_ups aX8_downs m_many aX8_row m_isSpent aX8_sumMany aX8_sumShares aX8_sumSet aX8_taken aX8_restUp aX8_restDown m_wishes aX8_wished aX8_far aX8_queue m_divided aX8_divisors aX8_least m_pairOne m_pairTwo m_sumUp m_sumDown Q hF (wp_X8_findSums_36 Q n) (fun v0 v1 v2 v3 v4 v5 v6 v7 v8 v9 v10 v11 v12 v13 w0 w1 w2 w3 w4 w5 w6 w7 w8 w9 w10 w11 w12 w13 hh => ih v0 v1 v2 v3 v4 v5 v6 v7 v8 v9 v10 v11 v12 v13 w0 w1 w2 w3 w4 w5 w6 w7 w8 w9 w10 w11 w12 w13 hh) m_found m_sumMany m_sumShares m_sumSet (ups m_taken l9 x56) m_restUp m_restDown m_fewest l5 l6 l7 l8 l9 l10 x64 x73 x82 r_m_found r_m_sumMany r_m_sumShares r_m_sumSet (rr32_u r_m_taken rx56) r_m_restUp r_m_restDown r_m_fewest r_l5 r_l6 r_l7 r_l8 r_l9 r_l10 rx64 rx73 rx82 h
    replace h := h.2 b106
    refine q_iconst g (1) dX8_findSums_110 ?_
    refine q_goto g (4) 115 (by decide) dX8_findSums_111 ?_
    refine q_lv (lv' := [(0, .ref hX8), (5, .int (i32 l5)), (6, .int (i32 l6)), (7, .int (i32 l7)), (8, .int (i32 l8)), (9, .int (i32 l9)), (10, .int (i32 l10)), (11, .int (i32 x64)), (12, .long (i64 x73)), (14, .long (i64 x82))]) [3, 4, 5, 6, 7, 8, 9, 2, 1, 0] rfl ?_
    exact s_X8_findSums_115 g hR hX8 aX8_ups aX8_downs m_many aX8_row m_isSpent aX8_sumMany aX8_sumShares aX8_sumSet aX8_taken aX8_restUp aX8_restDown m_wishes aX8_wished aX8_far aX8_queue m_divided aX8_divisors aX8_least m_pairOne m_pairTwo m_sumUp m_sumDown Q hF (wp_X8_findSums_36 Q n) (fun v0 v1 v2 v3 v4 v5 v6 v7 v8 v9 v10 v11 v12 v13 w0 w1 w2 w3 w4 w5 w6 w7 w8 w9 w10 w11 w12 w13 hh => ih v0 v1 v2 v3 v4 v5 v6 v7 v8 v9 v10 v11 v12 v13 w0 w1 w2 w3 w4 w5 w6 w7 w8 w9 w10 w11 w12 w13 hh) m_found m_sumMany m_sumShares m_sumSet (ups m_taken l9 x56) m_restUp m_restDown m_fewest l5 l6 l7 l8 l9 l10 x64 x73 x82 1 r_m_found r_m_sumMany r_m_sumShares r_m_sumSet (rr32_u r_m_taken rx56) r_m_restUp r_m_restDown r_m_fewest r_l5 r_l6 r_l7 r_l8 r_l9 r_l10 rx64 rx73 rx82 (r32_lit _ (by decide)) h
def wp_X8_findSums (Q : Int → (Int → Int) → (Int → Int) → (Int → Int) → (Int → Int) → (Int → Int) → (Int → Int) → Int → Prop) (m_found : Int) (m_sumMany : Int → Int) (m_sumShares : Int → Int) (m_sumSet : Int → Int) (m_taken : Int → Int) (m_restUp : Int → Int) (m_restDown : Int → Int) (m_fewest : Int) (l1 : Int) (l3 : Int) (l5 : Int) (l6 : Int) (l7 : Int) : Prop := (∃ n0 : Nat, wp_X8_findSums_36 Q n0 m_found m_sumMany m_sumShares m_sumSet (ups m_taken 0 1) (ups m_restUp 0 l1) (ups m_restDown 0 l3) (-4) l5 l6 l7 0 0 1)
set_option maxHeartbeats 4000000 in
set_option maxRecDepth 100000 in
theorem c_X8_findSums (l : Launch) (D : va_G) (cI cJ : ClassId) (zt : Nat) (hX8 : Nat) (aX8_ups : Nat) (aX8_downs : Nat) (m_many : Int) (aX8_row : Nat) (m_isSpent : Int) (m_found : Int) (aX8_sumMany : Nat) (aX8_sumShares : Nat) (aX8_sumSet : Nat) (aX8_taken : Nat) (aX8_restUp : Nat) (aX8_restDown : Nat) (m_fewest : Int) (m_wishes : Int) (aX8_wished : Nat) (aX8_far : Nat) (aX8_queue : Nat) (m_divided : Int) (aX8_divisors : Nat) (aX8_least : Nat) (m_pairOne : Int) (m_pairTwo : Int) (m_sumUp : Int) (m_sumDown : Int) (m_sumMany : Int → Int) (m_sumShares : Int → Int) (m_sumSet : Int → Int) (m_taken : Int → Int) (m_restUp : Int → Int) (m_restDown : Int → Int) (l1 : Int) (l3 : Int) (l5 : Int) (l6 : Int) (l7 : Int) (Q : Int → (Int → Int) → (Int → Int) → (Int → Int) → (Int → Int) → (Int → Int) → (Int → Int) → Int → Prop) (r_m_found : r32 m_found) (r_m_sumMany : rr32 m_sumMany) (r_m_sumShares : rr32 m_sumShares) (r_m_sumSet : rr64 m_sumSet) (r_m_taken : rr32 m_taken) (r_m_restUp : rr64 m_restUp) (r_m_restDown : rr64 m_restDown) (r_m_fewest : r32 m_fewest) (r_l1 : r64 l1) (r_l3 : r64 l3) (r_l5 : r32 l5) (r_l6 : r32 l6) (r_l7 : r32 l7) (h : wp_X8_findSums Q m_found m_sumMany m_sumShares m_sumSet m_taken m_restUp m_restDown m_fewest l1 l3 l5 l6 l7) : Ct l D cI cJ zt yX8_findSums cX8_findSums 23 none 2 0 0 [.ref hX8, .long (i64 l1), .long (i64 l3), .int (i32 l5), .int (i32 l6), .int (i32 l7)] [(hX8, .inr (7, [.ref aX8_ups, .ref aX8_downs, .int (i32 m_many), .ref aX8_row, .int (i32 m_isSpent), .int (i32 m_found), .ref aX8_sumMany, .ref aX8_sumShares, .ref aX8_sumSet, .ref aX8_taken, .ref aX8_restUp, .ref aX8_restDown, .int (i32 m_fewest), .int (i32 m_wishes), .ref aX8_wished, .ref aX8_far, .ref aX8_queue, .int (i32 m_divided), .ref aX8_divisors, .ref aX8_least, .long (i64 m_pairOne), .long (i64 m_pairTwo), .long (i64 m_sumUp), .long (i64 m_sumDown)])), (aX8_sumMany, aI cI 2000 m_sumMany), (aX8_sumShares, aI cI 12000 m_sumShares), (aX8_sumSet, aL cJ 2000 m_sumSet), (aX8_taken, aI cI 7 m_taken), (aX8_restUp, aL cJ 8 m_restUp), (aX8_restDown, aL cJ 8 m_restDown)] (po_X8_findSums cI cJ hX8 aX8_ups aX8_downs m_many aX8_row m_isSpent aX8_sumMany aX8_sumShares aX8_sumSet aX8_taken aX8_restUp aX8_restDown m_wishes aX8_wished aX8_far aX8_queue m_divided aX8_divisors aX8_least m_pairOne m_pairTwo m_sumUp m_sumDown Q) := by
  refine ct_of (by decide +kernel) (Nat.le_of_ble_eq_true rfl) (fun X hl hDD hcI hcJ hzt hR hF hnm g => ?_)
  subst hl; subst hDD; subst hcI; subst hcJ; subst hzt
  show Wat X 0 0 0 [(0, .ref hX8), (1, .long (i64 l1)), (3, .long (i64 l3)), (5, .int (i32 l5)), (6, .int (i32 l6)), (7, .int (i32 l7))] [] [(hX8, .inr (7, [.ref aX8_ups, .ref aX8_downs, .int (i32 m_many), .ref aX8_row, .int (i32 m_isSpent), .int (i32 m_found), .ref aX8_sumMany, .ref aX8_sumShares, .ref aX8_sumSet, .ref aX8_taken, .ref aX8_restUp, .ref aX8_restDown, .int (i32 m_fewest), .int (i32 m_wishes), .ref aX8_wished, .ref aX8_far, .ref aX8_queue, .int (i32 m_divided), .ref aX8_divisors, .ref aX8_least, .long (i64 m_pairOne), .long (i64 m_pairTwo), .long (i64 m_sumUp), .long (i64 m_sumDown)])), (aX8_sumMany, aI X.cI 2000 m_sumMany), (aX8_sumShares, aI X.cI 12000 m_sumShares), (aX8_sumSet, aL X.cJ 2000 m_sumSet), (aX8_taken, aI X.cI 7 m_taken), (aX8_restUp, aL X.cJ 8 m_restUp), (aX8_restDown, aL X.cJ 8 m_restDown)]
  replace g : Gd X cX8_findSums RX8 none 23 := g
  rw [wp_X8_findSums] at h
  refine q_iconst g (0) dX8_findSums_0 ?_
  refine q_istore (lv' := [(8, .int (i32 0)), (0, .ref hX8), (1, .long (i64 l1)), (3, .long (i64 l3)), (5, .int (i32 l5)), (6, .int (i32 l6)), (7, .int (i32 l7))]) g 8   (by decide) rfl dX8_findSums_1 ?_
  refine q_aload_n g 0 1 rfl dX8_findSums_3 ?_
  refine q_bipush g (-4) (by decide) (by decide) dX8_findSums_4 ?_
  refine q_put (C := RX8) (T := TX8) (N := 24) (ty := .int) (ws' := [(hX8, .inr (7, [.ref aX8_ups, .ref aX8_downs, .int (i32 m_many), .ref aX8_row, .int (i32 m_isSpent), .int (i32 m_found), .ref aX8_sumMany, .ref aX8_sumShares, .ref aX8_sumSet, .ref aX8_taken, .ref aX8_restUp, .ref aX8_restDown, .int (i32 (-4)), .int (i32 m_wishes), .ref aX8_wished, .ref aX8_far, .ref aX8_queue, .int (i32 m_divided), .ref aX8_divisors, .ref aX8_least, .long (i64 m_pairOne), .long (i64 m_pairTwo), .long (i64 m_sumUp), .long (i64 m_sumDown)])), (aX8_sumMany, aI X.cI 2000 m_sumMany), (aX8_sumShares, aI X.cI 12000 m_sumShares), (aX8_sumSet, aL X.cJ 2000 m_sumSet), (aX8_taken, aI X.cI 7 m_taken), (aX8_restUp, aL X.cJ 8 m_restUp), (aX8_restDown, aL X.cJ 8 m_restDown)]) g 137 inX8 tyX8_ok nmX8 0 12 rfl rfl (by decide) wF_X8_137 rfl rfl rfl rfl (Nat.le_of_ble_eq_true rfl) rfl dX8_findSums_6 ?_
  refine q_aload_n g 0 1 rfl dX8_findSums_9 ?_
  refine q_get (C := RX8) (T := TX8) (N := 24) g 36 inX8 0 10 rfl rfl (by decide) wF_X8_36 rfl dX8_findSums_10 ?_
  refine q_iconst g (0) dX8_findSums_13 ?_
  refine q_lload_n g 1 2 rfl dX8_findSums_14 ?_
  refine q_last (ws' := [(hX8, .inr (7, [.ref aX8_ups, .ref aX8_downs, .int (i32 m_many), .ref aX8_row, .int (i32 m_isSpent), .int (i32 m_found), .ref aX8_sumMany, .ref aX8_sumShares, .ref aX8_sumSet, .ref aX8_taken, .ref aX8_restUp, .ref aX8_restDown, .int (i32 (-4)), .int (i32 m_wishes), .ref aX8_wished, .ref aX8_far, .ref aX8_queue, .int (i32 m_divided), .ref aX8_divisors, .ref aX8_least, .long (i64 m_pairOne), .long (i64 m_pairTwo), .long (i64 m_sumUp), .long (i64 m_sumDown)])), (aX8_sumMany, aI X.cI 2000 m_sumMany), (aX8_sumShares, aI X.cI 12000 m_sumShares), (aX8_sumSet, aL X.cJ 2000 m_sumSet), (aX8_taken, aI X.cI 7 m_taken), (aX8_restUp, aL X.cJ 8 (ups m_restUp 0 l1)), (aX8_restDown, aL X.cJ 8 m_restDown)]) g 5 rfl (by decide) (by decide) (by decide) rfl dX8_findSums_15 ?_
  refine q_aload_n g 0 1 rfl dX8_findSums_16 ?_
  refine q_get (C := RX8) (T := TX8) (N := 24) g 39 inX8 0 11 rfl rfl (by decide) wF_X8_39 rfl dX8_findSums_17 ?_
  refine q_iconst g (0) dX8_findSums_20 ?_
  refine q_lload_n g 3 3 rfl dX8_findSums_21 ?_
  refine q_last (ws' := [(hX8, .inr (7, [.ref aX8_ups, .ref aX8_downs, .int (i32 m_many), .ref aX8_row, .int (i32 m_isSpent), .int (i32 m_found), .ref aX8_sumMany, .ref aX8_sumShares, .ref aX8_sumSet, .ref aX8_taken, .ref aX8_restUp, .ref aX8_restDown, .int (i32 (-4)), .int (i32 m_wishes), .ref aX8_wished, .ref aX8_far, .ref aX8_queue, .int (i32 m_divided), .ref aX8_divisors, .ref aX8_least, .long (i64 m_pairOne), .long (i64 m_pairTwo), .long (i64 m_sumUp), .long (i64 m_sumDown)])), (aX8_sumMany, aI X.cI 2000 m_sumMany), (aX8_sumShares, aI X.cI 12000 m_sumShares), (aX8_sumSet, aL X.cJ 2000 m_sumSet), (aX8_taken, aI X.cI 7 m_taken), (aX8_restUp, aL X.cJ 8 (ups m_restUp 0 l1)), (aX8_restDown, aL X.cJ 8 (ups m_restDown 0 l3))]) g 6 rfl (by decide) (by decide) (by decide) rfl dX8_findSums_22 ?_
  refine q_aload_n g 0 1 rfl dX8_findSums_23 ?_
  refine q_get (C := RX8) (T := TX8) (N := 24) g 33 inX8 0 9 rfl rfl (by decide) wF_X8_33 rfl dX8_findSums_24 ?_
  refine q_iconst g (0) dX8_findSums_27 ?_
  refine q_iconst g (1) dX8_findSums_28 ?_
  refine q_iast (ws' := [(hX8, .inr (7, [.ref aX8_ups, .ref aX8_downs, .int (i32 m_many), .ref aX8_row, .int (i32 m_isSpent), .int (i32 m_found), .ref aX8_sumMany, .ref aX8_sumShares, .ref aX8_sumSet, .ref aX8_taken, .ref aX8_restUp, .ref aX8_restDown, .int (i32 (-4)), .int (i32 m_wishes), .ref aX8_wished, .ref aX8_far, .ref aX8_queue, .int (i32 m_divided), .ref aX8_divisors, .ref aX8_least, .long (i64 m_pairOne), .long (i64 m_pairTwo), .long (i64 m_sumUp), .long (i64 m_sumDown)])), (aX8_sumMany, aI X.cI 2000 m_sumMany), (aX8_sumShares, aI X.cI 12000 m_sumShares), (aX8_sumSet, aL X.cJ 2000 m_sumSet), (aX8_taken, aI X.cI 7 (ups m_taken 0 1)), (aX8_restUp, aL X.cJ 8 (ups m_restUp 0 l1)), (aX8_restDown, aL X.cJ 8 (ups m_restDown 0 l3))]) g 4 rfl (by decide) (by decide) (by decide) rfl dX8_findSums_29 ?_
  refine q_iconst g (0) dX8_findSums_30 ?_
  refine q_istore (lv' := [(9, .int (i32 0)), (8, .int (i32 0)), (0, .ref hX8), (1, .long (i64 l1)), (3, .long (i64 l3)), (5, .int (i32 l5)), (6, .int (i32 l6)), (7, .int (i32 l7))]) g 9   (by decide) rfl dX8_findSums_31 ?_
  refine q_iconst g (1) dX8_findSums_33 ?_
  refine q_istore (lv' := [(10, .int (i32 1)), (9, .int (i32 0)), (8, .int (i32 0)), (0, .ref hX8), (1, .long (i64 l1)), (3, .long (i64 l3)), (5, .int (i32 l5)), (6, .int (i32 l6)), (7, .int (i32 l7))]) g 10   (by decide) rfl dX8_findSums_34 ?_
  refine q_lv (lv' := [(0, .ref hX8), (5, .int (i32 l5)), (6, .int (i32 l6)), (7, .int (i32 l7)), (8, .int (i32 0)), (9, .int (i32 0)), (10, .int (i32 1))]) [3, 6, 7, 8, 2, 1, 0] rfl ?_
  obtain ⟨n0, h⟩ := h
  exact s_X8_findSums_36 g hR hX8 aX8_ups aX8_downs m_many aX8_row m_isSpent aX8_sumMany aX8_sumShares aX8_sumSet aX8_taken aX8_restUp aX8_restDown m_wishes aX8_wished aX8_far aX8_queue m_divided aX8_divisors aX8_least m_pairOne m_pairTwo m_sumUp m_sumDown Q hF n0 m_found m_sumMany m_sumShares m_sumSet (ups m_taken 0 1) (ups m_restUp 0 l1) (ups m_restDown 0 l3) (-4) l5 l6 l7 0 0 1 r_m_found r_m_sumMany r_m_sumShares r_m_sumSet (rr32_u r_m_taken (r32_lit _ (by decide))) (rr64_u r_m_restUp r_l1) (rr64_u r_m_restDown r_l3) (r32_lit _ (by decide)) r_l5 r_l6 r_l7 (r32_lit _ (by decide)) (r32_lit _ (by decide)) (r32_lit _ (by decide)) h
theorem dX8_rise_0 : decode cX8_rise 0 = .ok (.aload_n 0, 1) := by decide +kernel
theorem dX8_rise_1 : decode cX8_rise 1 = .ok (.lconst 0, 1) := by decide +kernel
theorem dX8_rise_2 : decode cX8_rise 2 = .ok (.putfield 216, 3) := by decide +kernel
theorem dX8_rise_5 : decode cX8_rise 5 = .ok (.aload_n 0, 1) := by decide +kernel
theorem dX8_rise_6 : decode cX8_rise 6 = .ok (.lconst 1, 1) := by decide +kernel
theorem dX8_rise_7 : decode cX8_rise 7 = .ok (.putfield 219, 3) := by decide +kernel
theorem dX8_rise_10 : decode cX8_rise 10 = .ok (.iconst 2, 1) := by decide +kernel
theorem dX8_rise_11 : decode cX8_rise 11 = .ok (.istore_n 2, 1) := by decide +kernel
theorem dX8_rise_12 : decode cX8_rise 12 = .ok (.iload_n 2, 1) := by decide +kernel
theorem dX8_rise_13 : decode cX8_rise 13 = .ok (.iload_n 1, 1) := by decide +kernel
theorem dX8_rise_14 : decode cX8_rise 14 = .ok (.if_icmp .gt 84, 3) := by decide +kernel
theorem dX8_rise_17 : decode cX8_rise 17 = .ok (.aload_n 0, 1) := by decide +kernel
theorem dX8_rise_18 : decode cX8_rise 18 = .ok (.getfield 219, 3) := by decide +kernel
theorem dX8_rise_21 : decode cX8_rise 21 = .ok (.iload_n 2, 1) := by decide +kernel
theorem dX8_rise_22 : decode cX8_rise 22 = .ok (.i2l, 1) := by decide +kernel
theorem dX8_rise_23 : decode cX8_rise 23 = .ok (.invokestatic 64, 3) := by decide +kernel
theorem dX8_rise_26 : decode cX8_rise 26 = .ok (.lstore_n 3, 1) := by decide +kernel
theorem dX8_rise_27 : decode cX8_rise 27 = .ok (.aload_n 0, 1) := by decide +kernel
theorem dX8_rise_28 : decode cX8_rise 28 = .ok (.aload_n 0, 1) := by decide +kernel
theorem dX8_rise_29 : decode cX8_rise 29 = .ok (.getfield 216, 3) := by decide +kernel
theorem dX8_rise_32 : decode cX8_rise 32 = .ok (.iload_n 2, 1) := by decide +kernel
theorem dX8_rise_33 : decode cX8_rise 33 = .ok (.i2l, 1) := by decide +kernel
theorem dX8_rise_34 : decode cX8_rise 34 = .ok (.lload_n 3, 1) := by decide +kernel
theorem dX8_rise_35 : decode cX8_rise 35 = .ok (.ldiv, 1) := by decide +kernel
theorem dX8_rise_36 : decode cX8_rise 36 = .ok (.lmul, 1) := by decide +kernel
theorem dX8_rise_37 : decode cX8_rise 37 = .ok (.aload_n 0, 1) := by decide +kernel
theorem dX8_rise_38 : decode cX8_rise 38 = .ok (.getfield 219, 3) := by decide +kernel
theorem dX8_rise_41 : decode cX8_rise 41 = .ok (.lload_n 3, 1) := by decide +kernel
theorem dX8_rise_42 : decode cX8_rise 42 = .ok (.ldiv, 1) := by decide +kernel
theorem dX8_rise_43 : decode cX8_rise 43 = .ok (.ladd, 1) := by decide +kernel
theorem dX8_rise_44 : decode cX8_rise 44 = .ok (.putfield 216, 3) := by decide +kernel
theorem dX8_rise_47 : decode cX8_rise 47 = .ok (.aload_n 0, 1) := by decide +kernel
theorem dX8_rise_48 : decode cX8_rise 48 = .ok (.dup, 1) := by decide +kernel
theorem dX8_rise_49 : decode cX8_rise 49 = .ok (.getfield 219, 3) := by decide +kernel
theorem dX8_rise_52 : decode cX8_rise 52 = .ok (.iload_n 2, 1) := by decide +kernel
theorem dX8_rise_53 : decode cX8_rise 53 = .ok (.i2l, 1) := by decide +kernel
theorem dX8_rise_54 : decode cX8_rise 54 = .ok (.lload_n 3, 1) := by decide +kernel
theorem dX8_rise_55 : decode cX8_rise 55 = .ok (.ldiv, 1) := by decide +kernel
theorem dX8_rise_56 : decode cX8_rise 56 = .ok (.lmul, 1) := by decide +kernel
theorem dX8_rise_57 : decode cX8_rise 57 = .ok (.putfield 219, 3) := by decide +kernel
theorem dX8_rise_60 : decode cX8_rise 60 = .ok (.aload_n 0, 1) := by decide +kernel
theorem dX8_rise_61 : decode cX8_rise 61 = .ok (.getfield 216, 3) := by decide +kernel
theorem dX8_rise_64 : decode cX8_rise 64 = .ok (.aload_n 0, 1) := by decide +kernel
theorem dX8_rise_65 : decode cX8_rise 65 = .ok (.getfield 219, 3) := by decide +kernel
theorem dX8_rise_68 : decode cX8_rise 68 = .ok (.invokestatic 64, 3) := by decide +kernel
theorem dX8_rise_71 : decode cX8_rise 71 = .ok (.lstore_n 3, 1) := by decide +kernel
theorem dX8_rise_72 : decode cX8_rise 72 = .ok (.aload_n 0, 1) := by decide +kernel
theorem dX8_rise_73 : decode cX8_rise 73 = .ok (.dup, 1) := by decide +kernel
theorem dX8_rise_74 : decode cX8_rise 74 = .ok (.getfield 216, 3) := by decide +kernel
theorem dX8_rise_77 : decode cX8_rise 77 = .ok (.lload_n 3, 1) := by decide +kernel
theorem dX8_rise_78 : decode cX8_rise 78 = .ok (.ldiv, 1) := by decide +kernel
theorem dX8_rise_79 : decode cX8_rise 79 = .ok (.putfield 216, 3) := by decide +kernel
theorem dX8_rise_82 : decode cX8_rise 82 = .ok (.aload_n 0, 1) := by decide +kernel
theorem dX8_rise_83 : decode cX8_rise 83 = .ok (.dup, 1) := by decide +kernel
theorem dX8_rise_84 : decode cX8_rise 84 = .ok (.getfield 219, 3) := by decide +kernel
theorem dX8_rise_87 : decode cX8_rise 87 = .ok (.lload_n 3, 1) := by decide +kernel
theorem dX8_rise_88 : decode cX8_rise 88 = .ok (.ldiv, 1) := by decide +kernel
theorem dX8_rise_89 : decode cX8_rise 89 = .ok (.putfield 219, 3) := by decide +kernel
theorem dX8_rise_92 : decode cX8_rise 92 = .ok (.iinc 2 1, 3) := by decide +kernel
theorem dX8_rise_95 : decode cX8_rise 95 = .ok (.goto (-83), 3) := by decide +kernel
theorem dX8_rise_98 : decode cX8_rise 98 = .ok (.return_, 1) := by decide +kernel
abbrev po_X8_rise (cI cJ : ClassId) (hX8 : Nat) (aX8_ups : Nat) (aX8_downs : Nat) (m_many : Int) (aX8_row : Nat) (m_isSpent : Int) (m_found : Int) (aX8_sumMany : Nat) (aX8_sumShares : Nat) (aX8_sumSet : Nat) (aX8_taken : Nat) (aX8_restUp : Nat) (aX8_restDown : Nat) (m_fewest : Int) (m_wishes : Int) (aX8_wished : Nat) (aX8_far : Nat) (aX8_queue : Nat) (m_divided : Int) (aX8_divisors : Nat) (aX8_least : Nat) (m_pairOne : Int) (m_pairTwo : Int) (Q : Int → Int → Prop) : Option Value → va_W → Prop := fun rv w1 => ∃ (m_sumUp : Int) (m_sumDown : Int), rv = none ∧ w1 = [(hX8, .inr (7, [.ref aX8_ups, .ref aX8_downs, .int (i32 m_many), .ref aX8_row, .int (i32 m_isSpent), .int (i32 m_found), .ref aX8_sumMany, .ref aX8_sumShares, .ref aX8_sumSet, .ref aX8_taken, .ref aX8_restUp, .ref aX8_restDown, .int (i32 m_fewest), .int (i32 m_wishes), .ref aX8_wished, .ref aX8_far, .ref aX8_queue, .int (i32 m_divided), .ref aX8_divisors, .ref aX8_least, .long (i64 m_pairOne), .long (i64 m_pairTwo), .long (i64 m_sumUp), .long (i64 m_sumDown)]))] ∧ r64 m_sumUp ∧ r64 m_sumDown ∧ Q m_sumUp m_sumDown
def wp_X8_rise_12 (Q : Int → Int → Prop) : Nat → Int → Int → Int → Int → Prop
  | 0, _, _, _, _ => False
  | n + 1, m_sumUp, m_sumDown, l1, l2 => ((l1 < l2 → Q m_sumUp m_sumDown) ∧
  (¬ (l1 < l2) → wp_X8_gcd (fun (x23 : Int) => (0 < x23 ∧ r64 (m_sumUp * (l2.tdiv x23)) ∧ 0 < x23 ∧ r64 ((m_sumUp * (l2.tdiv x23)) + (m_sumDown.tdiv x23)) ∧ ∀ x44 : Int, x44 = ((m_sumUp * (l2.tdiv x23)) + (m_sumDown.tdiv x23)) → 0 < x23 ∧ r64 (m_sumDown * (l2.tdiv x23)) ∧ ∀ x57 : Int, x57 = (m_sumDown * (l2.tdiv x23)) → wp_X8_gcd (fun (x68 : Int) => (0 < x68 ∧ ∀ x79 : Int, x79 = (x44.tdiv x68) → 0 < x68 ∧ ∀ x89 : Int, x89 = (x57.tdiv x68) → r32 (l2 + 1) ∧ wp_X8_rise_12 Q n x79 x89 l1 (l2 + 1))) x44 x57)) m_sumDown l2))
set_option maxHeartbeats 4000000 in
set_option maxRecDepth 100000 in
theorem s_X8_rise_12 {X : Cx} (g : Gd X cX8_rise RX8 none 5) (hR : X.R = rmL 2 0 0) (hX8 : Nat) (aX8_ups : Nat) (aX8_downs : Nat) (m_many : Int) (aX8_row : Nat) (m_isSpent : Int) (m_found : Int) (aX8_sumMany : Nat) (aX8_sumShares : Nat) (aX8_sumSet : Nat) (aX8_taken : Nat) (aX8_restUp : Nat) (aX8_restDown : Nat) (m_fewest : Int) (m_wishes : Int) (aX8_wished : Nat) (aX8_far : Nat) (aX8_queue : Nat) (m_divided : Int) (aX8_divisors : Nat) (aX8_least : Nat) (m_pairOne : Int) (m_pairTwo : Int) (Q : Int → Int → Prop) (hF : FQ X 0 0 (po_X8_rise X.cI X.cJ hX8 aX8_ups aX8_downs m_many aX8_row m_isSpent m_found aX8_sumMany aX8_sumShares aX8_sumSet aX8_taken aX8_restUp aX8_restDown m_fewest m_wishes aX8_wished aX8_far aX8_queue m_divided aX8_divisors aX8_least m_pairOne m_pairTwo Q)) : ∀ (n : Nat) (m_sumUp : Int) (m_sumDown : Int) (l1 : Int) (l2 : Int), r64 m_sumUp → r64 m_sumDown → r32 l1 → r32 l2 → wp_X8_rise_12 Q n m_sumUp m_sumDown l1 l2 → Wat X 0 0 12 [(0, .ref hX8), (1, .int (i32 l1)), (2, .int (i32 l2))] [] [(hX8, .inr (7, [.ref aX8_ups, .ref aX8_downs, .int (i32 m_many), .ref aX8_row, .int (i32 m_isSpent), .int (i32 m_found), .ref aX8_sumMany, .ref aX8_sumShares, .ref aX8_sumSet, .ref aX8_taken, .ref aX8_restUp, .ref aX8_restDown, .int (i32 m_fewest), .int (i32 m_wishes), .ref aX8_wished, .ref aX8_far, .ref aX8_queue, .int (i32 m_divided), .ref aX8_divisors, .ref aX8_least, .long (i64 m_pairOne), .long (i64 m_pairTwo), .long (i64 m_sumUp), .long (i64 m_sumDown)]))] := by
  intro n
  induction n with
  | zero => intro m_sumUp m_sumDown l1 l2 r_m_sumUp r_m_sumDown r_l1 r_l2 h; exact False.elim h
  | succ n ih =>
    intro m_sumUp m_sumDown l1 l2 r_m_sumUp r_m_sumDown r_l1 r_l2 h
    rw [wp_X8_rise_12] at h
    refine q_iload_n g 2 2 rfl dX8_rise_12 ?_
    refine q_iload_n g 1 1 rfl dX8_rise_13 ?_
    refine q_icmp_gt g (84) 98 r_l2 r_l1 (by decide) dX8_rise_14 (fun b14 => ?_) (fun b14 => ?_)
    · replace h := h.1 b14
      exact q_vret g hF ⟨m_sumUp, m_sumDown, rfl, rfl, r_m_sumUp, r_m_sumDown, h⟩ dX8_rise_98
    replace h := h.2 b14
    refine q_aload_n g 0 0 rfl dX8_rise_17 ?_
    refine q_get (C := RX8) (T := TX8) (N := 24) g 219 inX8 0 23 rfl rfl (by decide) wF_X8_219 rfl dX8_rise_18 ?_
    refine q_iload_n g 2 2 rfl dX8_rise_21 ?_
    refine q_i2l g r_l2 dX8_rise_22 ?_
    refine q_callS (lev := 1) (mc := 0) (ms := 0) (As := [.long (i64 m_sumDown), .long (i64 l2)]) g 64 (c_X8_gcd X.l X.D X.cI X.cJ X.zt m_sumDown l2 _ r_m_sumDown (r32_64 r_l2) h) (wr := [(hX8, .inr (7, [.ref aX8_ups, .ref aX8_downs, .int (i32 m_many), .ref aX8_row, .int (i32 m_isSpent), .int (i32 m_found), .ref aX8_sumMany, .ref aX8_sumShares, .ref aX8_sumSet, .ref aX8_taken, .ref aX8_restUp, .ref aX8_restDown, .int (i32 m_fewest), .int (i32 m_wishes), .ref aX8_wished, .ref aX8_far, .ref aX8_queue, .int (i32 m_divided), .ref aX8_divisors, .ref aX8_least, .long (i64 m_pairOne), .long (i64 m_pairTwo), .long (i64 m_sumUp), .long (i64 m_sumDown)]))]) [] [0] rfl rfl rfl (by decide) (by decide) (by decide) wM_X8_64 wT_X8_gcd wZ_X8 wC_X8_gcd 2 rfl (by decide +kernel) (by rw [hR]; exact ⟨by show 1 + 1 ≤ 2; omega, by show 8 + (10 + 11) + 100 * 1 ≤ 100 * 2; omega⟩) (by rw [hR]; exact ⟨Nat.le_refl _, Nat.le_refl _⟩) (Nat.le_of_ble_eq_true rfl) rfl dX8_rise_23 (fun rv w1 hq => ?_)
    obtain ⟨x23, rfl, rfl, rx23, h⟩ := hq
    show Wat X 0 0 26 [(0, .ref hX8), (1, .int (i32 l1)), (2, .int (i32 l2))] [.long (i64 x23)] [(hX8, .inr (7, [.ref aX8_ups, .ref aX8_downs, .int (i32 m_many), .ref aX8_row, .int (i32 m_isSpent), .int (i32 m_found), .ref aX8_sumMany, .ref aX8_sumShares, .ref aX8_sumSet, .ref aX8_taken, .ref aX8_restUp, .ref aX8_restDown, .int (i32 m_fewest), .int (i32 m_wishes), .ref aX8_wished, .ref aX8_far, .ref aX8_queue, .int (i32 m_divided), .ref aX8_divisors, .ref aX8_least, .long (i64 m_pairOne), .long (i64 m_pairTwo), .long (i64 m_sumUp), .long (i64 m_sumDown)]))]
    refine q_lstore_n (lv' := [(3, .long (i64 x23)), (0, .ref hX8), (1, .int (i32 l1)), (2, .int (i32 l2))]) g 3 3 rfl (by decide) rfl dX8_rise_26 ?_
    refine q_aload_n g 0 1 rfl dX8_rise_27 ?_
    refine q_aload_n g 0 1 rfl dX8_rise_28 ?_
    refine q_get (C := RX8) (T := TX8) (N := 24) g 216 inX8 0 22 rfl rfl (by decide) wF_X8_216 rfl dX8_rise_29 ?_
    refine q_iload_n g 2 3 rfl dX8_rise_32 ?_
    refine q_i2l g r_l2 dX8_rise_33 ?_
    refine q_lload_n g 3 0 rfl dX8_rise_34 ?_
    obtain ⟨c35, h⟩ := h
    refine q_ldiv g (r32_64 r_l2) rx23 (ne_of_pos c35) dX8_rise_35 ?_
    obtain ⟨c36, h⟩ := h
    refine q_lmul g dX8_rise_36 ?_
    refine q_aload_n g 0 1 rfl dX8_rise_37 ?_
    refine q_get (C := RX8) (T := TX8) (N := 24) g 219 inX8 0 23 rfl rfl (by decide) wF_X8_219 rfl dX8_rise_38 ?_
    refine q_lload_n g 3 0 rfl dX8_rise_41 ?_
    obtain ⟨c42, h⟩ := h
    refine q_ldiv g r_m_sumDown rx23 (ne_of_pos c42) dX8_rise_42 ?_
    obtain ⟨c43, h⟩ := h
    refine q_ladd g dX8_rise_43 ?_
    refine q_topl c43 (fun x44 ex44 rx44 => ?_)
    replace h := h x44 ex44
    refine q_put (C := RX8) (T := TX8) (N := 24) (ty := .long) (ws' := [(hX8, .inr (7, [.ref aX8_ups, .ref aX8_downs, .int (i32 m_many), .ref aX8_row, .int (i32 m_isSpent), .int (i32 m_found), .ref aX8_sumMany, .ref aX8_sumShares, .ref aX8_sumSet, .ref aX8_taken, .ref aX8_restUp, .ref aX8_restDown, .int (i32 m_fewest), .int (i32 m_wishes), .ref aX8_wished, .ref aX8_far, .ref aX8_queue, .int (i32 m_divided), .ref aX8_divisors, .ref aX8_least, .long (i64 m_pairOne), .long (i64 m_pairTwo), .long (i64 x44), .long (i64 m_sumDown)]))]) g 216 inX8 tyX8_ok nmX8 0 22 rfl rfl (by decide) wF_X8_216 rfl rfl rfl rfl (Nat.le_of_ble_eq_true rfl) rfl dX8_rise_44 ?_
    refine q_aload_n g 0 1 rfl dX8_rise_47 ?_
    refine q_dup g rfl dX8_rise_48 ?_
    refine q_get (C := RX8) (T := TX8) (N := 24) g 219 inX8 0 23 rfl rfl (by decide) wF_X8_219 rfl dX8_rise_49 ?_
    refine q_iload_n g 2 3 rfl dX8_rise_52 ?_
    refine q_i2l g r_l2 dX8_rise_53 ?_
    refine q_lload_n g 3 0 rfl dX8_rise_54 ?_
    obtain ⟨c55, h⟩ := h
    refine q_ldiv g (r32_64 r_l2) rx23 (ne_of_pos c55) dX8_rise_55 ?_
    obtain ⟨c56, h⟩ := h
    refine q_lmul g dX8_rise_56 ?_
    refine q_topl c56 (fun x57 ex57 rx57 => ?_)
    replace h := h x57 ex57
    refine q_put (C := RX8) (T := TX8) (N := 24) (ty := .long) (ws' := [(hX8, .inr (7, [.ref aX8_ups, .ref aX8_downs, .int (i32 m_many), .ref aX8_row, .int (i32 m_isSpent), .int (i32 m_found), .ref aX8_sumMany, .ref aX8_sumShares, .ref aX8_sumSet, .ref aX8_taken, .ref aX8_restUp, .ref aX8_restDown, .int (i32 m_fewest), .int (i32 m_wishes), .ref aX8_wished, .ref aX8_far, .ref aX8_queue, .int (i32 m_divided), .ref aX8_divisors, .ref aX8_least, .long (i64 m_pairOne), .long (i64 m_pairTwo), .long (i64 x44), .long (i64 x57)]))]) g 219 inX8 tyX8_ok nmX8 0 23 rfl rfl (by decide) wF_X8_219 rfl rfl rfl rfl (Nat.le_of_ble_eq_true rfl) rfl dX8_rise_57 ?_
    refine q_aload_n g 0 1 rfl dX8_rise_60 ?_
    refine q_get (C := RX8) (T := TX8) (N := 24) g 216 inX8 0 22 rfl rfl (by decide) wF_X8_216 rfl dX8_rise_61 ?_
    refine q_aload_n g 0 1 rfl dX8_rise_64 ?_
    refine q_get (C := RX8) (T := TX8) (N := 24) g 219 inX8 0 23 rfl rfl (by decide) wF_X8_219 rfl dX8_rise_65 ?_
    refine q_callS (lev := 1) (mc := 0) (ms := 0) (As := [.long (i64 x44), .long (i64 x57)]) g 64 (c_X8_gcd X.l X.D X.cI X.cJ X.zt x44 x57 _ rx44 rx57 h) (wr := [(hX8, .inr (7, [.ref aX8_ups, .ref aX8_downs, .int (i32 m_many), .ref aX8_row, .int (i32 m_isSpent), .int (i32 m_found), .ref aX8_sumMany, .ref aX8_sumShares, .ref aX8_sumSet, .ref aX8_taken, .ref aX8_restUp, .ref aX8_restDown, .int (i32 m_fewest), .int (i32 m_wishes), .ref aX8_wished, .ref aX8_far, .ref aX8_queue, .int (i32 m_divided), .ref aX8_divisors, .ref aX8_least, .long (i64 m_pairOne), .long (i64 m_pairTwo), .long (i64 x44), .long (i64 x57)]))]) [] [0] rfl rfl rfl (by decide) (by decide) (by decide) wM_X8_64 wT_X8_gcd wZ_X8 wC_X8_gcd 2 rfl (by decide +kernel) (by rw [hR]; exact ⟨by show 1 + 1 ≤ 2; omega, by show 8 + (10 + 11) + 100 * 1 ≤ 100 * 2; omega⟩) (by rw [hR]; exact ⟨Nat.le_refl _, Nat.le_refl _⟩) (Nat.le_of_ble_eq_true rfl) rfl dX8_rise_68 (fun rv w1 hq => ?_)
    obtain ⟨x68, rfl, rfl, rx68, h⟩ := hq
    show Wat X 0 0 71 [(3, .long (i64 x23)), (0, .ref hX8), (1, .int (i32 l1)), (2, .int (i32 l2))] [.long (i64 x68)] [(hX8, .inr (7, [.ref aX8_ups, .ref aX8_downs, .int (i32 m_many), .ref aX8_row, .int (i32 m_isSpent), .int (i32 m_found), .ref aX8_sumMany, .ref aX8_sumShares, .ref aX8_sumSet, .ref aX8_taken, .ref aX8_restUp, .ref aX8_restDown, .int (i32 m_fewest), .int (i32 m_wishes), .ref aX8_wished, .ref aX8_far, .ref aX8_queue, .int (i32 m_divided), .ref aX8_divisors, .ref aX8_least, .long (i64 m_pairOne), .long (i64 m_pairTwo), .long (i64 x44), .long (i64 x57)]))]
    refine q_lstore_n (lv' := [(3, .long (i64 x68)), (0, .ref hX8), (1, .int (i32 l1)), (2, .int (i32 l2))]) g 3 3 rfl (by decide) rfl dX8_rise_71 ?_
    refine q_aload_n g 0 1 rfl dX8_rise_72 ?_
    refine q_dup g rfl dX8_rise_73 ?_
    refine q_get (C := RX8) (T := TX8) (N := 24) g 216 inX8 0 22 rfl rfl (by decide) wF_X8_216 rfl dX8_rise_74 ?_
    refine q_lload_n g 3 0 rfl dX8_rise_77 ?_
    obtain ⟨c78, h⟩ := h
    refine q_ldiv g rx44 rx68 (ne_of_pos c78) dX8_rise_78 ?_
    refine q_topl (r64_tdiv rx44 c78) (fun x79 ex79 rx79 => ?_)
    replace h := h x79 ex79
    refine q_put (C := RX8) (T := TX8) (N := 24) (ty := .long) (ws' := [(hX8, .inr (7, [.ref aX8_ups, .ref aX8_downs, .int (i32 m_many), .ref aX8_row, .int (i32 m_isSpent), .int (i32 m_found), .ref aX8_sumMany, .ref aX8_sumShares, .ref aX8_sumSet, .ref aX8_taken, .ref aX8_restUp, .ref aX8_restDown, .int (i32 m_fewest), .int (i32 m_wishes), .ref aX8_wished, .ref aX8_far, .ref aX8_queue, .int (i32 m_divided), .ref aX8_divisors, .ref aX8_least, .long (i64 m_pairOne), .long (i64 m_pairTwo), .long (i64 x79), .long (i64 x57)]))]) g 216 inX8 tyX8_ok nmX8 0 22 rfl rfl (by decide) wF_X8_216 rfl rfl rfl rfl (Nat.le_of_ble_eq_true rfl) rfl dX8_rise_79 ?_
    refine q_aload_n g 0 1 rfl dX8_rise_82 ?_
    refine q_dup g rfl dX8_rise_83 ?_
    refine q_get (C := RX8) (T := TX8) (N := 24) g 219 inX8 0 23 rfl rfl (by decide) wF_X8_219 rfl dX8_rise_84 ?_
    refine q_lload_n g 3 0 rfl dX8_rise_87 ?_
    obtain ⟨c88, h⟩ := h
    refine q_ldiv g rx57 rx68 (ne_of_pos c88) dX8_rise_88 ?_
    refine q_topl (r64_tdiv rx57 c88) (fun x89 ex89 rx89 => ?_)
    replace h := h x89 ex89
    refine q_put (C := RX8) (T := TX8) (N := 24) (ty := .long) (ws' := [(hX8, .inr (7, [.ref aX8_ups, .ref aX8_downs, .int (i32 m_many), .ref aX8_row, .int (i32 m_isSpent), .int (i32 m_found), .ref aX8_sumMany, .ref aX8_sumShares, .ref aX8_sumSet, .ref aX8_taken, .ref aX8_restUp, .ref aX8_restDown, .int (i32 m_fewest), .int (i32 m_wishes), .ref aX8_wished, .ref aX8_far, .ref aX8_queue, .int (i32 m_divided), .ref aX8_divisors, .ref aX8_least, .long (i64 m_pairOne), .long (i64 m_pairTwo), .long (i64 x79), .long (i64 x89)]))]) g 219 inX8 tyX8_ok nmX8 0 23 rfl rfl (by decide) wF_X8_219 rfl rfl rfl rfl (Nat.le_of_ble_eq_true rfl) rfl dX8_rise_89 ?_
    obtain ⟨c92, h⟩ := h
    refine q_iinc (lv' := [(2, .int (i32 (l2 + 1))), (3, .long (i64 x68)), (0, .ref hX8), (1, .int (i32 l1))]) g 2 3 1 (by decide) rfl rfl dX8_rise_92 ?_
    refine q_goto g (-83) 12 (by decide) dX8_rise_95 ?_
    refine q_lv (lv' := [(0, .ref hX8), (1, .int (i32 l1)), (2, .int (i32 (l2 + 1)))]) [2, 3, 0] rfl ?_
    exact ih x79 x89 l1 (l2 + 1) rx79 rx89 r_l1 c92 h
def wp_X8_rise (Q : Int → Int → Prop) (m_sumUp : Int) (m_sumDown : Int) (l1 : Int) : Prop := (∃ n0 : Nat, wp_X8_rise_12 Q n0 0 1 l1 2)
set_option maxHeartbeats 4000000 in
set_option maxRecDepth 100000 in
theorem c_X8_rise (l : Launch) (D : va_G) (cI cJ : ClassId) (zt : Nat) (hX8 : Nat) (aX8_ups : Nat) (aX8_downs : Nat) (m_many : Int) (aX8_row : Nat) (m_isSpent : Int) (m_found : Int) (aX8_sumMany : Nat) (aX8_sumShares : Nat) (aX8_sumSet : Nat) (aX8_taken : Nat) (aX8_restUp : Nat) (aX8_restDown : Nat) (m_fewest : Int) (m_wishes : Int) (aX8_wished : Nat) (aX8_far : Nat) (aX8_queue : Nat) (m_divided : Int) (aX8_divisors : Nat) (aX8_least : Nat) (m_pairOne : Int) (m_pairTwo : Int) (m_sumUp : Int) (m_sumDown : Int) (l1 : Int) (Q : Int → Int → Prop) (r_m_sumUp : r64 m_sumUp) (r_m_sumDown : r64 m_sumDown) (r_l1 : r32 l1) (h : wp_X8_rise Q m_sumUp m_sumDown l1) : Ct l D cI cJ zt yX8_rise cX8_rise 5 none 2 0 0 [.ref hX8, .int (i32 l1)] [(hX8, .inr (7, [.ref aX8_ups, .ref aX8_downs, .int (i32 m_many), .ref aX8_row, .int (i32 m_isSpent), .int (i32 m_found), .ref aX8_sumMany, .ref aX8_sumShares, .ref aX8_sumSet, .ref aX8_taken, .ref aX8_restUp, .ref aX8_restDown, .int (i32 m_fewest), .int (i32 m_wishes), .ref aX8_wished, .ref aX8_far, .ref aX8_queue, .int (i32 m_divided), .ref aX8_divisors, .ref aX8_least, .long (i64 m_pairOne), .long (i64 m_pairTwo), .long (i64 m_sumUp), .long (i64 m_sumDown)]))] (po_X8_rise cI cJ hX8 aX8_ups aX8_downs m_many aX8_row m_isSpent m_found aX8_sumMany aX8_sumShares aX8_sumSet aX8_taken aX8_restUp aX8_restDown m_fewest m_wishes aX8_wished aX8_far aX8_queue m_divided aX8_divisors aX8_least m_pairOne m_pairTwo Q) := by
  refine ct_of (by decide +kernel) (Nat.le_of_ble_eq_true rfl) (fun X hl hDD hcI hcJ hzt hR hF hnm g => ?_)
  subst hl; subst hDD; subst hcI; subst hcJ; subst hzt
  show Wat X 0 0 0 [(0, .ref hX8), (1, .int (i32 l1))] [] [(hX8, .inr (7, [.ref aX8_ups, .ref aX8_downs, .int (i32 m_many), .ref aX8_row, .int (i32 m_isSpent), .int (i32 m_found), .ref aX8_sumMany, .ref aX8_sumShares, .ref aX8_sumSet, .ref aX8_taken, .ref aX8_restUp, .ref aX8_restDown, .int (i32 m_fewest), .int (i32 m_wishes), .ref aX8_wished, .ref aX8_far, .ref aX8_queue, .int (i32 m_divided), .ref aX8_divisors, .ref aX8_least, .long (i64 m_pairOne), .long (i64 m_pairTwo), .long (i64 m_sumUp), .long (i64 m_sumDown)]))]
  replace g : Gd X cX8_rise RX8 none 5 := g
  rw [wp_X8_rise] at h
  refine q_aload_n g 0 0 rfl dX8_rise_0 ?_
  refine q_lconst g 0 0 rfl dX8_rise_1 ?_
  refine q_put (C := RX8) (T := TX8) (N := 24) (ty := .long) (ws' := [(hX8, .inr (7, [.ref aX8_ups, .ref aX8_downs, .int (i32 m_many), .ref aX8_row, .int (i32 m_isSpent), .int (i32 m_found), .ref aX8_sumMany, .ref aX8_sumShares, .ref aX8_sumSet, .ref aX8_taken, .ref aX8_restUp, .ref aX8_restDown, .int (i32 m_fewest), .int (i32 m_wishes), .ref aX8_wished, .ref aX8_far, .ref aX8_queue, .int (i32 m_divided), .ref aX8_divisors, .ref aX8_least, .long (i64 m_pairOne), .long (i64 m_pairTwo), .long (i64 0), .long (i64 m_sumDown)]))]) g 216 inX8 tyX8_ok nmX8 0 22 rfl rfl (by decide) wF_X8_216 rfl rfl rfl rfl (Nat.le_of_ble_eq_true rfl) rfl dX8_rise_2 ?_
  refine q_aload_n g 0 0 rfl dX8_rise_5 ?_
  refine q_lconst g 1 1 rfl dX8_rise_6 ?_
  refine q_put (C := RX8) (T := TX8) (N := 24) (ty := .long) (ws' := [(hX8, .inr (7, [.ref aX8_ups, .ref aX8_downs, .int (i32 m_many), .ref aX8_row, .int (i32 m_isSpent), .int (i32 m_found), .ref aX8_sumMany, .ref aX8_sumShares, .ref aX8_sumSet, .ref aX8_taken, .ref aX8_restUp, .ref aX8_restDown, .int (i32 m_fewest), .int (i32 m_wishes), .ref aX8_wished, .ref aX8_far, .ref aX8_queue, .int (i32 m_divided), .ref aX8_divisors, .ref aX8_least, .long (i64 m_pairOne), .long (i64 m_pairTwo), .long (i64 0), .long (i64 1)]))]) g 219 inX8 tyX8_ok nmX8 0 23 rfl rfl (by decide) wF_X8_219 rfl rfl rfl rfl (Nat.le_of_ble_eq_true rfl) rfl dX8_rise_7 ?_
  refine q_iconst g (2) dX8_rise_10 ?_
  refine q_istore_n (lv' := [(2, .int (i32 2)), (0, .ref hX8), (1, .int (i32 l1))]) g 2 2 rfl (by decide) rfl dX8_rise_11 ?_
  refine q_lv (lv' := [(0, .ref hX8), (1, .int (i32 l1)), (2, .int (i32 2))]) [1, 2, 0] rfl ?_
  obtain ⟨n0, h⟩ := h
  exact s_X8_rise_12 g hR hX8 aX8_ups aX8_downs m_many aX8_row m_isSpent m_found aX8_sumMany aX8_sumShares aX8_sumSet aX8_taken aX8_restUp aX8_restDown m_fewest m_wishes aX8_wished aX8_far aX8_queue m_divided aX8_divisors aX8_least m_pairOne m_pairTwo Q hF n0 0 1 l1 2 (r64_lit _ (by decide)) (r64_lit _ (by decide)) r_l1 (r32_lit _ (by decide)) h
theorem dX8_firstAbove_0 : decode cX8_firstAbove 0 = .ok (.iload_n 1, 1) := by decide +kernel
theorem dX8_firstAbove_1 : decode cX8_firstAbove 1 = .ok (.i2l, 1) := by decide +kernel
theorem dX8_firstAbove_2 : decode cX8_firstAbove 2 = .ok (.lconst 1, 1) := by decide +kernel
theorem dX8_firstAbove_3 : decode cX8_firstAbove 3 = .ok (.ldc2_w 89, 3) := by decide +kernel
theorem dX8_firstAbove_6 : decode cX8_firstAbove 6 = .ok (.invokestatic 60, 3) := by decide +kernel
theorem dX8_firstAbove_9 : decode cX8_firstAbove 9 = .ok (.ifCond .ne 5, 3) := by decide +kernel
theorem dX8_firstAbove_12 : decode cX8_firstAbove 12 = .ok (.iconst (-1), 1) := by decide +kernel
theorem dX8_firstAbove_13 : decode cX8_firstAbove 13 = .ok (.ireturn, 1) := by decide +kernel
theorem dX8_firstAbove_14 : decode cX8_firstAbove 14 = .ok (.iconst 2, 1) := by decide +kernel
theorem dX8_firstAbove_15 : decode cX8_firstAbove 15 = .ok (.istore_n 2, 1) := by decide +kernel
theorem dX8_firstAbove_16 : decode cX8_firstAbove 16 = .ok (.aload_n 0, 1) := by decide +kernel
theorem dX8_firstAbove_17 : decode cX8_firstAbove 17 = .ok (.iload_n 2, 1) := by decide +kernel
theorem dX8_firstAbove_18 : decode cX8_firstAbove 18 = .ok (.invokevirtual 224, 3) := by decide +kernel
theorem dX8_firstAbove_21 : decode cX8_firstAbove 21 = .ok (.aload_n 0, 1) := by decide +kernel
theorem dX8_firstAbove_22 : decode cX8_firstAbove 22 = .ok (.getfield 216, 3) := by decide +kernel
theorem dX8_firstAbove_25 : decode cX8_firstAbove 25 = .ok (.iload_n 1, 1) := by decide +kernel
theorem dX8_firstAbove_26 : decode cX8_firstAbove 26 = .ok (.i2l, 1) := by decide +kernel
theorem dX8_firstAbove_27 : decode cX8_firstAbove 27 = .ok (.aload_n 0, 1) := by decide +kernel
theorem dX8_firstAbove_28 : decode cX8_firstAbove 28 = .ok (.getfield 219, 3) := by decide +kernel
theorem dX8_firstAbove_31 : decode cX8_firstAbove 31 = .ok (.lmul, 1) := by decide +kernel
theorem dX8_firstAbove_32 : decode cX8_firstAbove 32 = .ok (.lcmp, 1) := by decide +kernel
theorem dX8_firstAbove_33 : decode cX8_firstAbove 33 = .ok (.ifCond .ge 14, 3) := by decide +kernel
theorem dX8_firstAbove_36 : decode cX8_firstAbove 36 = .ok (.iinc 2 1, 3) := by decide +kernel
theorem dX8_firstAbove_39 : decode cX8_firstAbove 39 = .ok (.aload_n 0, 1) := by decide +kernel
theorem dX8_firstAbove_40 : decode cX8_firstAbove 40 = .ok (.iload_n 2, 1) := by decide +kernel
theorem dX8_firstAbove_41 : decode cX8_firstAbove 41 = .ok (.invokevirtual 224, 3) := by decide +kernel
theorem dX8_firstAbove_44 : decode cX8_firstAbove 44 = .ok (.goto (-23), 3) := by decide +kernel
theorem dX8_firstAbove_47 : decode cX8_firstAbove 47 = .ok (.iload_n 2, 1) := by decide +kernel
theorem dX8_firstAbove_48 : decode cX8_firstAbove 48 = .ok (.ireturn, 1) := by decide +kernel
abbrev po_X8_firstAbove (cI cJ : ClassId) (hX8 : Nat) (aX8_ups : Nat) (aX8_downs : Nat) (m_many : Int) (aX8_row : Nat) (m_isSpent : Int) (m_found : Int) (aX8_sumMany : Nat) (aX8_sumShares : Nat) (aX8_sumSet : Nat) (aX8_taken : Nat) (aX8_restUp : Nat) (aX8_restDown : Nat) (m_fewest : Int) (m_wishes : Int) (aX8_wished : Nat) (aX8_far : Nat) (aX8_queue : Nat) (m_divided : Int) (aX8_divisors : Nat) (aX8_least : Nat) (m_pairOne : Int) (m_pairTwo : Int) (Q : Int → Int → Int → Prop) : Option Value → va_W → Prop := fun rv w1 => ∃ (r0 : Int) (m_sumUp : Int) (m_sumDown : Int), rv = some (.int (i32 r0)) ∧ w1 = [(hX8, .inr (7, [.ref aX8_ups, .ref aX8_downs, .int (i32 m_many), .ref aX8_row, .int (i32 m_isSpent), .int (i32 m_found), .ref aX8_sumMany, .ref aX8_sumShares, .ref aX8_sumSet, .ref aX8_taken, .ref aX8_restUp, .ref aX8_restDown, .int (i32 m_fewest), .int (i32 m_wishes), .ref aX8_wished, .ref aX8_far, .ref aX8_queue, .int (i32 m_divided), .ref aX8_divisors, .ref aX8_least, .long (i64 m_pairOne), .long (i64 m_pairTwo), .long (i64 m_sumUp), .long (i64 m_sumDown)]))] ∧ r32 r0 ∧ r64 m_sumUp ∧ r64 m_sumDown ∧ Q r0 m_sumUp m_sumDown
def wp_X8_firstAbove_21 (Q : Int → Int → Int → Prop) : Nat → Int → Int → Int → Int → Prop
  | 0, _, _, _, _ => False
  | n + 1, m_sumUp, m_sumDown, l1, l2 => (r64 (l1 * m_sumDown) ∧ (((l1 * m_sumDown) ≤ m_sumUp → Q l2 m_sumUp m_sumDown) ∧
  (¬ ((l1 * m_sumDown) ≤ m_sumUp) → (r32 (l2 + 1) ∧ wp_X8_rise (fun (m_sumUp_41 : Int) (m_sumDown_41 : Int) => wp_X8_firstAbove_21 Q n m_sumUp_41 m_sumDown_41 l1 (l2 + 1)) m_sumUp m_sumDown (l2 + 1)))))
set_option maxHeartbeats 4000000 in
set_option maxRecDepth 100000 in
theorem s_X8_firstAbove_21 {X : Cx} (g : Gd X cX8_firstAbove RX8 (some .int) 3) (hR : X.R = rmL 3 0 0) (hX8 : Nat) (aX8_ups : Nat) (aX8_downs : Nat) (m_many : Int) (aX8_row : Nat) (m_isSpent : Int) (m_found : Int) (aX8_sumMany : Nat) (aX8_sumShares : Nat) (aX8_sumSet : Nat) (aX8_taken : Nat) (aX8_restUp : Nat) (aX8_restDown : Nat) (m_fewest : Int) (m_wishes : Int) (aX8_wished : Nat) (aX8_far : Nat) (aX8_queue : Nat) (m_divided : Int) (aX8_divisors : Nat) (aX8_least : Nat) (m_pairOne : Int) (m_pairTwo : Int) (Q : Int → Int → Int → Prop) (hF : FQ X 0 0 (po_X8_firstAbove X.cI X.cJ hX8 aX8_ups aX8_downs m_many aX8_row m_isSpent m_found aX8_sumMany aX8_sumShares aX8_sumSet aX8_taken aX8_restUp aX8_restDown m_fewest m_wishes aX8_wished aX8_far aX8_queue m_divided aX8_divisors aX8_least m_pairOne m_pairTwo Q)) : ∀ (n : Nat) (m_sumUp : Int) (m_sumDown : Int) (l1 : Int) (l2 : Int), r64 m_sumUp → r64 m_sumDown → r32 l1 → r32 l2 → wp_X8_firstAbove_21 Q n m_sumUp m_sumDown l1 l2 → Wat X 0 0 21 [(0, .ref hX8), (1, .int (i32 l1)), (2, .int (i32 l2))] [] [(hX8, .inr (7, [.ref aX8_ups, .ref aX8_downs, .int (i32 m_many), .ref aX8_row, .int (i32 m_isSpent), .int (i32 m_found), .ref aX8_sumMany, .ref aX8_sumShares, .ref aX8_sumSet, .ref aX8_taken, .ref aX8_restUp, .ref aX8_restDown, .int (i32 m_fewest), .int (i32 m_wishes), .ref aX8_wished, .ref aX8_far, .ref aX8_queue, .int (i32 m_divided), .ref aX8_divisors, .ref aX8_least, .long (i64 m_pairOne), .long (i64 m_pairTwo), .long (i64 m_sumUp), .long (i64 m_sumDown)]))] := by
  intro n
  induction n with
  | zero => intro m_sumUp m_sumDown l1 l2 r_m_sumUp r_m_sumDown r_l1 r_l2 h; exact False.elim h
  | succ n ih =>
    intro m_sumUp m_sumDown l1 l2 r_m_sumUp r_m_sumDown r_l1 r_l2 h
    rw [wp_X8_firstAbove_21] at h
    refine q_aload_n g 0 0 rfl dX8_firstAbove_21 ?_
    refine q_get (C := RX8) (T := TX8) (N := 24) g 216 inX8 0 22 rfl rfl (by decide) wF_X8_216 rfl dX8_firstAbove_22 ?_
    refine q_iload_n g 1 1 rfl dX8_firstAbove_25 ?_
    refine q_i2l g r_l1 dX8_firstAbove_26 ?_
    refine q_aload_n g 0 0 rfl dX8_firstAbove_27 ?_
    refine q_get (C := RX8) (T := TX8) (N := 24) g 219 inX8 0 23 rfl rfl (by decide) wF_X8_219 rfl dX8_firstAbove_28 ?_
    obtain ⟨c31, h⟩ := h
    refine q_lmul g dX8_firstAbove_31 ?_
    refine q_lcmp_ge g (14) 47 r_m_sumUp c31 (by decide) dX8_firstAbove_32 dX8_firstAbove_33 (fun b32 => ?_) (fun b32 => ?_)
    · replace h := h.1 b32
      refine q_iload_n g 2 2 rfl dX8_firstAbove_47 ?_
      exact q_iret g hF ⟨l2, m_sumUp, m_sumDown, rfl, rfl, r_l2, r_m_sumUp, r_m_sumDown, h⟩ dX8_firstAbove_48
    replace h := h.2 b32
    obtain ⟨c36, h⟩ := h
    refine q_iinc (lv' := [(2, .int (i32 (l2 + 1))), (0, .ref hX8), (1, .int (i32 l1))]) g 2 2 1 (by decide) rfl rfl dX8_firstAbove_36 ?_
    refine q_aload_n g 0 1 rfl dX8_firstAbove_39 ?_
    refine q_iload_n g 2 0 rfl dX8_firstAbove_40 ?_
    refine q_callV (lev := 2) (mc := 0) (ms := 0) g 224 (c_X8_rise X.l X.D X.cI X.cJ X.zt hX8 aX8_ups aX8_downs m_many aX8_row m_isSpent m_found aX8_sumMany aX8_sumShares aX8_sumSet aX8_taken aX8_restUp aX8_restDown m_fewest m_wishes aX8_wished aX8_far aX8_queue m_divided aX8_divisors aX8_least m_pairOne m_pairTwo m_sumUp m_sumDown (l2 + 1) _ r_m_sumUp r_m_sumDown c36 h) (wr := []) [0] [] rfl rfl rfl (by decide) (by decide) (by decide) (ci := 7) rfl rfl rfl wM_X8_224 wI_X8_rise wS_X8_rise wZ_X8 wC_X8_rise 1 rfl (by decide +kernel) (by rw [hR]; exact ⟨by show 2 + 1 ≤ 3; omega, by show 8 + (5 + 11) + 100 * 2 ≤ 100 * 3; omega⟩) (by rw [hR]; exact ⟨Nat.le_refl _, Nat.le_refl _⟩) (Nat.le_of_ble_eq_true rfl) rfl dX8_firstAbove_41 (fun rv w1 hq => ?_)
    obtain ⟨m_sumUp_41, m_sumDown_41, rfl, rfl, rm_sumUp_41, rm_sumDown_41, h⟩ := hq
    show Wat X 0 0 44 [(2, .int (i32 (l2 + 1))), (0, .ref hX8), (1, .int (i32 l1))] [] [(hX8, .inr (7, [.ref aX8_ups, .ref aX8_downs, .int (i32 m_many), .ref aX8_row, .int (i32 m_isSpent), .int (i32 m_found), .ref aX8_sumMany, .ref aX8_sumShares, .ref aX8_sumSet, .ref aX8_taken, .ref aX8_restUp, .ref aX8_restDown, .int (i32 m_fewest), .int (i32 m_wishes), .ref aX8_wished, .ref aX8_far, .ref aX8_queue, .int (i32 m_divided), .ref aX8_divisors, .ref aX8_least, .long (i64 m_pairOne), .long (i64 m_pairTwo), .long (i64 m_sumUp_41), .long (i64 m_sumDown_41)]))]
    refine q_goto g (-23) 21 (by decide) dX8_firstAbove_44 ?_
    refine q_lv (lv' := [(0, .ref hX8), (1, .int (i32 l1)), (2, .int (i32 (l2 + 1)))]) [1, 2, 0] rfl ?_
    exact ih m_sumUp_41 m_sumDown_41 l1 (l2 + 1) rm_sumUp_41 rm_sumDown_41 r_l1 c36 h
def wp_X8_firstAbove (Q : Int → Int → Int → Prop) (m_sumUp : Int) (m_sumDown : Int) (l1 : Int) : Prop := wp_X8_in (fun (x6 : Int) => ((¬ x6 = 0 → wp_X8_rise (fun (m_sumUp_18 : Int) (m_sumDown_18 : Int) => (∃ n0 : Nat, wp_X8_firstAbove_21 Q n0 m_sumUp_18 m_sumDown_18 l1 2)) m_sumUp m_sumDown 2) ∧
  (x6 = 0 → Q (-1) m_sumUp m_sumDown))) l1 1 2
set_option maxHeartbeats 4000000 in
set_option maxRecDepth 100000 in
theorem c_X8_firstAbove (l : Launch) (D : va_G) (cI cJ : ClassId) (zt : Nat) (hX8 : Nat) (aX8_ups : Nat) (aX8_downs : Nat) (m_many : Int) (aX8_row : Nat) (m_isSpent : Int) (m_found : Int) (aX8_sumMany : Nat) (aX8_sumShares : Nat) (aX8_sumSet : Nat) (aX8_taken : Nat) (aX8_restUp : Nat) (aX8_restDown : Nat) (m_fewest : Int) (m_wishes : Int) (aX8_wished : Nat) (aX8_far : Nat) (aX8_queue : Nat) (m_divided : Int) (aX8_divisors : Nat) (aX8_least : Nat) (m_pairOne : Int) (m_pairTwo : Int) (m_sumUp : Int) (m_sumDown : Int) (l1 : Int) (Q : Int → Int → Int → Prop) (r_m_sumUp : r64 m_sumUp) (r_m_sumDown : r64 m_sumDown) (r_l1 : r32 l1) (h : wp_X8_firstAbove Q m_sumUp m_sumDown l1) : Ct l D cI cJ zt yX8_firstAbove cX8_firstAbove 3 (some .int) 3 0 0 [.ref hX8, .int (i32 l1)] [(hX8, .inr (7, [.ref aX8_ups, .ref aX8_downs, .int (i32 m_many), .ref aX8_row, .int (i32 m_isSpent), .int (i32 m_found), .ref aX8_sumMany, .ref aX8_sumShares, .ref aX8_sumSet, .ref aX8_taken, .ref aX8_restUp, .ref aX8_restDown, .int (i32 m_fewest), .int (i32 m_wishes), .ref aX8_wished, .ref aX8_far, .ref aX8_queue, .int (i32 m_divided), .ref aX8_divisors, .ref aX8_least, .long (i64 m_pairOne), .long (i64 m_pairTwo), .long (i64 m_sumUp), .long (i64 m_sumDown)]))] (po_X8_firstAbove cI cJ hX8 aX8_ups aX8_downs m_many aX8_row m_isSpent m_found aX8_sumMany aX8_sumShares aX8_sumSet aX8_taken aX8_restUp aX8_restDown m_fewest m_wishes aX8_wished aX8_far aX8_queue m_divided aX8_divisors aX8_least m_pairOne m_pairTwo Q) := by
  refine ct_of (by decide +kernel) (Nat.le_of_ble_eq_true rfl) (fun X hl hDD hcI hcJ hzt hR hF hnm g => ?_)
  subst hl; subst hDD; subst hcI; subst hcJ; subst hzt
  show Wat X 0 0 0 [(0, .ref hX8), (1, .int (i32 l1))] [] [(hX8, .inr (7, [.ref aX8_ups, .ref aX8_downs, .int (i32 m_many), .ref aX8_row, .int (i32 m_isSpent), .int (i32 m_found), .ref aX8_sumMany, .ref aX8_sumShares, .ref aX8_sumSet, .ref aX8_taken, .ref aX8_restUp, .ref aX8_restDown, .int (i32 m_fewest), .int (i32 m_wishes), .ref aX8_wished, .ref aX8_far, .ref aX8_queue, .int (i32 m_divided), .ref aX8_divisors, .ref aX8_least, .long (i64 m_pairOne), .long (i64 m_pairTwo), .long (i64 m_sumUp), .long (i64 m_sumDown)]))]
  replace g : Gd X cX8_firstAbove RX8 (some .int) 3 := g
  rw [wp_X8_firstAbove] at h
  refine q_iload_n g 1 1 rfl dX8_firstAbove_0 ?_
  refine q_i2l g r_l1 dX8_firstAbove_1 ?_
  refine q_lconst g 1 1 rfl dX8_firstAbove_2 ?_
  refine q_ldc2 (w := 2) g 89 (2) (by decide +kernel) wL_X8_89 dX8_firstAbove_3 ?_
  refine q_callS (lev := 1) (mc := 0) (ms := 0) (As := [.long (i64 l1), .long (i64 1), .long (i64 2)]) g 60 (c_X8_in X.l X.D X.cI X.cJ X.zt l1 1 2 _ (r32_64 r_l1) (r64_lit _ (by decide)) (r64_lit _ (by decide)) h) (wr := [(hX8, .inr (7, [.ref aX8_ups, .ref aX8_downs, .int (i32 m_many), .ref aX8_row, .int (i32 m_isSpent), .int (i32 m_found), .ref aX8_sumMany, .ref aX8_sumShares, .ref aX8_sumSet, .ref aX8_taken, .ref aX8_restUp, .ref aX8_restDown, .int (i32 m_fewest), .int (i32 m_wishes), .ref aX8_wished, .ref aX8_far, .ref aX8_queue, .int (i32 m_divided), .ref aX8_divisors, .ref aX8_least, .long (i64 m_pairOne), .long (i64 m_pairTwo), .long (i64 m_sumUp), .long (i64 m_sumDown)]))]) [] [0] rfl rfl rfl (by decide) (by decide) (by decide) wM_X8_60 wT_X8_in wZ_X8 wC_X8_in 3 rfl (by decide +kernel) (by rw [hR]; exact ⟨by show 1 + 1 ≤ 3; omega, by show 8 + (6 + 11) + 100 * 1 ≤ 100 * 3; omega⟩) (by rw [hR]; exact ⟨Nat.le_refl _, Nat.le_refl _⟩) (Nat.le_of_ble_eq_true rfl) rfl dX8_firstAbove_6 (fun rv w1 hq => ?_)
  obtain ⟨x6, rfl, rfl, rx6, h⟩ := hq
  show Wat X 0 0 9 [(0, .ref hX8), (1, .int (i32 l1))] [.int (i32 x6)] [(hX8, .inr (7, [.ref aX8_ups, .ref aX8_downs, .int (i32 m_many), .ref aX8_row, .int (i32 m_isSpent), .int (i32 m_found), .ref aX8_sumMany, .ref aX8_sumShares, .ref aX8_sumSet, .ref aX8_taken, .ref aX8_restUp, .ref aX8_restDown, .int (i32 m_fewest), .int (i32 m_wishes), .ref aX8_wished, .ref aX8_far, .ref aX8_queue, .int (i32 m_divided), .ref aX8_divisors, .ref aX8_least, .long (i64 m_pairOne), .long (i64 m_pairTwo), .long (i64 m_sumUp), .long (i64 m_sumDown)]))]
  refine q_if_ne g (5) 14 rx6 (by decide) dX8_firstAbove_9 (fun b9 => ?_) (fun b9 => ?_)
  · replace h := h.1 b9
    refine q_iconst g (2) dX8_firstAbove_14 ?_
    refine q_istore_n (lv' := [(2, .int (i32 2)), (0, .ref hX8), (1, .int (i32 l1))]) g 2 2 rfl (by decide) rfl dX8_firstAbove_15 ?_
    refine q_aload_n g 0 1 rfl dX8_firstAbove_16 ?_
    refine q_iload_n g 2 0 rfl dX8_firstAbove_17 ?_
    refine q_callV (lev := 2) (mc := 0) (ms := 0) g 224 (c_X8_rise X.l X.D X.cI X.cJ X.zt hX8 aX8_ups aX8_downs m_many aX8_row m_isSpent m_found aX8_sumMany aX8_sumShares aX8_sumSet aX8_taken aX8_restUp aX8_restDown m_fewest m_wishes aX8_wished aX8_far aX8_queue m_divided aX8_divisors aX8_least m_pairOne m_pairTwo m_sumUp m_sumDown 2 _ r_m_sumUp r_m_sumDown (r32_lit _ (by decide)) h) (wr := []) [0] [] rfl rfl rfl (by decide) (by decide) (by decide) (ci := 7) rfl rfl rfl wM_X8_224 wI_X8_rise wS_X8_rise wZ_X8 wC_X8_rise 1 rfl (by decide +kernel) (by rw [hR]; exact ⟨by show 2 + 1 ≤ 3; omega, by show 8 + (5 + 11) + 100 * 2 ≤ 100 * 3; omega⟩) (by rw [hR]; exact ⟨Nat.le_refl _, Nat.le_refl _⟩) (Nat.le_of_ble_eq_true rfl) rfl dX8_firstAbove_18 (fun rv w1 hq => ?_)
    obtain ⟨m_sumUp_18, m_sumDown_18, rfl, rfl, rm_sumUp_18, rm_sumDown_18, h⟩ := hq
    show Wat X 0 0 21 [(2, .int (i32 2)), (0, .ref hX8), (1, .int (i32 l1))] [] [(hX8, .inr (7, [.ref aX8_ups, .ref aX8_downs, .int (i32 m_many), .ref aX8_row, .int (i32 m_isSpent), .int (i32 m_found), .ref aX8_sumMany, .ref aX8_sumShares, .ref aX8_sumSet, .ref aX8_taken, .ref aX8_restUp, .ref aX8_restDown, .int (i32 m_fewest), .int (i32 m_wishes), .ref aX8_wished, .ref aX8_far, .ref aX8_queue, .int (i32 m_divided), .ref aX8_divisors, .ref aX8_least, .long (i64 m_pairOne), .long (i64 m_pairTwo), .long (i64 m_sumUp_18), .long (i64 m_sumDown_18)]))]
    refine q_lv (lv' := [(0, .ref hX8), (1, .int (i32 l1)), (2, .int (i32 2))]) [1, 2, 0] rfl ?_
    obtain ⟨n0, h⟩ := h
    exact s_X8_firstAbove_21 g hR hX8 aX8_ups aX8_downs m_many aX8_row m_isSpent m_found aX8_sumMany aX8_sumShares aX8_sumSet aX8_taken aX8_restUp aX8_restDown m_fewest m_wishes aX8_wished aX8_far aX8_queue m_divided aX8_divisors aX8_least m_pairOne m_pairTwo Q hF n0 m_sumUp_18 m_sumDown_18 l1 2 rm_sumUp_18 rm_sumDown_18 r_l1 (r32_lit _ (by decide)) h
  replace h := h.2 b9
  refine q_iconst g (-1) dX8_firstAbove_12 ?_
  exact q_iret g hF ⟨(-1), m_sumUp, m_sumDown, rfl, rfl, (r32_lit _ (by decide)), r_m_sumUp, r_m_sumDown, h⟩ dX8_firstAbove_13
theorem dX8_has_0 : decode cX8_has 0 = .ok (.iconst 0, 1) := by decide +kernel
theorem dX8_has_1 : decode cX8_has 1 = .ok (.istore_n 3, 1) := by decide +kernel
theorem dX8_has_2 : decode cX8_has 2 = .ok (.iconst 0, 1) := by decide +kernel
theorem dX8_has_3 : decode cX8_has 3 = .ok (.istore 4, 2) := by decide +kernel
theorem dX8_has_5 : decode cX8_has 5 = .ok (.iload 4, 2) := by decide +kernel
theorem dX8_has_7 : decode cX8_has 7 = .ok (.aload_n 0, 1) := by decide +kernel
theorem dX8_has_8 : decode cX8_has 8 = .ok (.getfield 84, 3) := by decide +kernel
theorem dX8_has_11 : decode cX8_has 11 = .ok (.if_icmp .ge 31, 3) := by decide +kernel
theorem dX8_has_14 : decode cX8_has 14 = .ok (.iload_n 3, 1) := by decide +kernel
theorem dX8_has_15 : decode cX8_has 15 = .ok (.ifCond .ne 15, 3) := by decide +kernel
theorem dX8_has_18 : decode cX8_has 18 = .ok (.aload_n 0, 1) := by decide +kernel
theorem dX8_has_19 : decode cX8_has 19 = .ok (.getfield 16, 3) := by decide +kernel
theorem dX8_has_22 : decode cX8_has 22 = .ok (.iload 4, 2) := by decide +kernel
theorem dX8_has_24 : decode cX8_has 24 = .ok (.laload, 1) := by decide +kernel
theorem dX8_has_25 : decode cX8_has 25 = .ok (.lload_n 1, 1) := by decide +kernel
theorem dX8_has_26 : decode cX8_has 26 = .ok (.lcmp, 1) := by decide +kernel
theorem dX8_has_27 : decode cX8_has 27 = .ok (.ifCond .ne 7, 3) := by decide +kernel
theorem dX8_has_30 : decode cX8_has 30 = .ok (.iconst 1, 1) := by decide +kernel
theorem dX8_has_31 : decode cX8_has 31 = .ok (.goto 4, 3) := by decide +kernel
theorem dX8_has_34 : decode cX8_has 34 = .ok (.iconst 0, 1) := by decide +kernel
theorem dX8_has_35 : decode cX8_has 35 = .ok (.istore_n 3, 1) := by decide +kernel
theorem dX8_has_36 : decode cX8_has 36 = .ok (.iinc 4 1, 3) := by decide +kernel
theorem dX8_has_39 : decode cX8_has 39 = .ok (.goto (-34), 3) := by decide +kernel
theorem dX8_has_42 : decode cX8_has 42 = .ok (.iload_n 3, 1) := by decide +kernel
theorem dX8_has_43 : decode cX8_has 43 = .ok (.ireturn, 1) := by decide +kernel
abbrev po_X8_has (cI cJ : ClassId) (hX8 : Nat) (aX8_ups : Nat) (aX8_downs : Nat) (m_many : Int) (aX8_row : Nat) (m_isSpent : Int) (m_found : Int) (aX8_sumMany : Nat) (aX8_sumShares : Nat) (aX8_sumSet : Nat) (aX8_taken : Nat) (aX8_restUp : Nat) (aX8_restDown : Nat) (m_fewest : Int) (m_wishes : Int) (aX8_wished : Nat) (aX8_far : Nat) (aX8_queue : Nat) (m_divided : Int) (aX8_divisors : Nat) (aX8_least : Nat) (m_pairOne : Int) (m_pairTwo : Int) (m_sumUp : Int) (m_sumDown : Int) (m_row : Int → Int) (Q : Int → Prop) : Option Value → va_W → Prop := fun rv w1 => ∃ (r0 : Int), rv = some (.int (i32 r0)) ∧ w1 = [(hX8, .inr (7, [.ref aX8_ups, .ref aX8_downs, .int (i32 m_many), .ref aX8_row, .int (i32 m_isSpent), .int (i32 m_found), .ref aX8_sumMany, .ref aX8_sumShares, .ref aX8_sumSet, .ref aX8_taken, .ref aX8_restUp, .ref aX8_restDown, .int (i32 m_fewest), .int (i32 m_wishes), .ref aX8_wished, .ref aX8_far, .ref aX8_queue, .int (i32 m_divided), .ref aX8_divisors, .ref aX8_least, .long (i64 m_pairOne), .long (i64 m_pairTwo), .long (i64 m_sumUp), .long (i64 m_sumDown)])), (aX8_row, aL cJ 17 m_row)] ∧ r32 r0 ∧ Q r0
def wp_X8_has_35 (Q : Int → Prop) (m_many : Int) (m_row : Int → Int) (K_5 : Int → Int → Int → Prop) (l1 : Int) (l4 : Int) (k0 : Int) : Prop := (r32 (l4 + 1) ∧ K_5 l1 k0 (l4 + 1))
set_option maxHeartbeats 4000000 in
set_option maxRecDepth 100000 in
theorem s_X8_has_35 {X : Cx} (g : Gd X cX8_has RX8 (some .boolean) 5) (hR : X.R = rmL 1 0 0) (hX8 : Nat) (aX8_ups : Nat) (aX8_downs : Nat) (aX8_row : Nat) (m_isSpent : Int) (m_found : Int) (aX8_sumMany : Nat) (aX8_sumShares : Nat) (aX8_sumSet : Nat) (aX8_taken : Nat) (aX8_restUp : Nat) (aX8_restDown : Nat) (m_fewest : Int) (m_wishes : Int) (aX8_wished : Nat) (aX8_far : Nat) (aX8_queue : Nat) (m_divided : Int) (aX8_divisors : Nat) (aX8_least : Nat) (m_pairOne : Int) (m_pairTwo : Int) (m_sumUp : Int) (m_sumDown : Int) (m_many : Int) (m_row : Int → Int) (r_m_many : r32 m_many) (r_m_row : rr64 m_row) (Q : Int → Prop) (hF : FQ X 0 0 (po_X8_has X.cI X.cJ hX8 aX8_ups aX8_downs m_many aX8_row m_isSpent m_found aX8_sumMany aX8_sumShares aX8_sumSet aX8_taken aX8_restUp aX8_restDown m_fewest m_wishes aX8_wished aX8_far aX8_queue m_divided aX8_divisors aX8_least m_pairOne m_pairTwo m_sumUp m_sumDown m_row Q)) (K_5 : Int → Int → Int → Prop) (hK_5 : ∀ (l1 : Int) (l3 : Int) (l4 : Int), r64 l1 → r32 l3 → r32 l4 → K_5 l1 l3 l4 → Wat X 0 0 5 [(0, .ref hX8), (1, .long (i64 l1)), (3, .int (i32 l3)), (4, .int (i32 l4))] [] [(hX8, .inr (7, [.ref aX8_ups, .ref aX8_downs, .int (i32 m_many), .ref aX8_row, .int (i32 m_isSpent), .int (i32 m_found), .ref aX8_sumMany, .ref aX8_sumShares, .ref aX8_sumSet, .ref aX8_taken, .ref aX8_restUp, .ref aX8_restDown, .int (i32 m_fewest), .int (i32 m_wishes), .ref aX8_wished, .ref aX8_far, .ref aX8_queue, .int (i32 m_divided), .ref aX8_divisors, .ref aX8_least, .long (i64 m_pairOne), .long (i64 m_pairTwo), .long (i64 m_sumUp), .long (i64 m_sumDown)])), (aX8_row, aL X.cJ 17 m_row)]) : ∀ (l1 : Int) (l4 : Int) (k0 : Int), r64 l1 → r32 l4 → r32 k0 → wp_X8_has_35 Q m_many m_row K_5 l1 l4 k0 → Wat X 0 0 35 [(0, .ref hX8), (1, .long (i64 l1)), (4, .int (i32 l4))] [.int (i32 k0)] [(hX8, .inr (7, [.ref aX8_ups, .ref aX8_downs, .int (i32 m_many), .ref aX8_row, .int (i32 m_isSpent), .int (i32 m_found), .ref aX8_sumMany, .ref aX8_sumShares, .ref aX8_sumSet, .ref aX8_taken, .ref aX8_restUp, .ref aX8_restDown, .int (i32 m_fewest), .int (i32 m_wishes), .ref aX8_wished, .ref aX8_far, .ref aX8_queue, .int (i32 m_divided), .ref aX8_divisors, .ref aX8_least, .long (i64 m_pairOne), .long (i64 m_pairTwo), .long (i64 m_sumUp), .long (i64 m_sumDown)])), (aX8_row, aL X.cJ 17 m_row)] := by
  intro l1 l4 k0 r_l1 r_l4 r_k0 h
  rw [wp_X8_has_35] at h
  refine q_istore_n (lv' := [(3, .int (i32 k0)), (0, .ref hX8), (1, .long (i64 l1)), (4, .int (i32 l4))]) g 3 3 rfl (by decide) rfl dX8_has_35 ?_
  obtain ⟨c36, h⟩ := h
  refine q_iinc (lv' := [(4, .int (i32 (l4 + 1))), (3, .int (i32 k0)), (0, .ref hX8), (1, .long (i64 l1))]) g 4 3 1 (by decide) rfl rfl dX8_has_36 ?_
  refine q_goto g (-34) 5 (by decide) dX8_has_39 ?_
  refine q_lv (lv' := [(0, .ref hX8), (1, .long (i64 l1)), (3, .int (i32 k0)), (4, .int (i32 (l4 + 1)))]) [2, 3, 1, 0] rfl ?_
  exact hK_5 l1 k0 (l4 + 1) r_l1 r_k0 c36 h
def wp_X8_has_30 (Q : Int → Prop) (m_many : Int) (m_row : Int → Int) (K_5 : Int → Int → Int → Prop) (l1 : Int) (l4 : Int) : Prop := wp_X8_has_35 Q m_many m_row K_5 l1 l4 1
set_option maxHeartbeats 4000000 in
set_option maxRecDepth 100000 in
theorem s_X8_has_30 {X : Cx} (g : Gd X cX8_has RX8 (some .boolean) 5) (hR : X.R = rmL 1 0 0) (hX8 : Nat) (aX8_ups : Nat) (aX8_downs : Nat) (aX8_row : Nat) (m_isSpent : Int) (m_found : Int) (aX8_sumMany : Nat) (aX8_sumShares : Nat) (aX8_sumSet : Nat) (aX8_taken : Nat) (aX8_restUp : Nat) (aX8_restDown : Nat) (m_fewest : Int) (m_wishes : Int) (aX8_wished : Nat) (aX8_far : Nat) (aX8_queue : Nat) (m_divided : Int) (aX8_divisors : Nat) (aX8_least : Nat) (m_pairOne : Int) (m_pairTwo : Int) (m_sumUp : Int) (m_sumDown : Int) (m_many : Int) (m_row : Int → Int) (r_m_many : r32 m_many) (r_m_row : rr64 m_row) (Q : Int → Prop) (hF : FQ X 0 0 (po_X8_has X.cI X.cJ hX8 aX8_ups aX8_downs m_many aX8_row m_isSpent m_found aX8_sumMany aX8_sumShares aX8_sumSet aX8_taken aX8_restUp aX8_restDown m_fewest m_wishes aX8_wished aX8_far aX8_queue m_divided aX8_divisors aX8_least m_pairOne m_pairTwo m_sumUp m_sumDown m_row Q)) (K_5 : Int → Int → Int → Prop) (hK_5 : ∀ (l1 : Int) (l3 : Int) (l4 : Int), r64 l1 → r32 l3 → r32 l4 → K_5 l1 l3 l4 → Wat X 0 0 5 [(0, .ref hX8), (1, .long (i64 l1)), (3, .int (i32 l3)), (4, .int (i32 l4))] [] [(hX8, .inr (7, [.ref aX8_ups, .ref aX8_downs, .int (i32 m_many), .ref aX8_row, .int (i32 m_isSpent), .int (i32 m_found), .ref aX8_sumMany, .ref aX8_sumShares, .ref aX8_sumSet, .ref aX8_taken, .ref aX8_restUp, .ref aX8_restDown, .int (i32 m_fewest), .int (i32 m_wishes), .ref aX8_wished, .ref aX8_far, .ref aX8_queue, .int (i32 m_divided), .ref aX8_divisors, .ref aX8_least, .long (i64 m_pairOne), .long (i64 m_pairTwo), .long (i64 m_sumUp), .long (i64 m_sumDown)])), (aX8_row, aL X.cJ 17 m_row)]) : ∀ (l1 : Int) (l4 : Int), r64 l1 → r32 l4 → wp_X8_has_30 Q m_many m_row K_5 l1 l4 → Wat X 0 0 30 [(0, .ref hX8), (1, .long (i64 l1)), (4, .int (i32 l4))] [] [(hX8, .inr (7, [.ref aX8_ups, .ref aX8_downs, .int (i32 m_many), .ref aX8_row, .int (i32 m_isSpent), .int (i32 m_found), .ref aX8_sumMany, .ref aX8_sumShares, .ref aX8_sumSet, .ref aX8_taken, .ref aX8_restUp, .ref aX8_restDown, .int (i32 m_fewest), .int (i32 m_wishes), .ref aX8_wished, .ref aX8_far, .ref aX8_queue, .int (i32 m_divided), .ref aX8_divisors, .ref aX8_least, .long (i64 m_pairOne), .long (i64 m_pairTwo), .long (i64 m_sumUp), .long (i64 m_sumDown)])), (aX8_row, aL X.cJ 17 m_row)] := by
  intro l1 l4 r_l1 r_l4 h
  rw [wp_X8_has_30] at h
  refine q_iconst g (1) dX8_has_30 ?_
  refine q_goto g (4) 35 (by decide) dX8_has_31 ?_
  exact s_X8_has_35 g hR hX8 aX8_ups aX8_downs aX8_row m_isSpent m_found aX8_sumMany aX8_sumShares aX8_sumSet aX8_taken aX8_restUp aX8_restDown m_fewest m_wishes aX8_wished aX8_far aX8_queue m_divided aX8_divisors aX8_least m_pairOne m_pairTwo m_sumUp m_sumDown m_many m_row r_m_many r_m_row Q hF K_5 hK_5 l1 l4 1 r_l1 r_l4 (r32_lit _ (by decide)) h
def wp_X8_has_5 (Q : Int → Prop) (m_many : Int) (m_row : Int → Int) : Nat → Int → Int → Int → Prop
  | 0, _, _, _ => False
  | n + 1, l1, l3, l4 => ((m_many ≤ l4 → ((l3 = 0 ∨ l3 = 1) ∧ Q l3)) ∧
  (¬ (m_many ≤ l4) → ((¬ l3 = 0 → wp_X8_has_30 Q m_many m_row (wp_X8_has_5 Q m_many m_row n) l1 l4) ∧
  (l3 = 0 → (0 ≤ l4 ∧ l4 < 17 ∧ ((¬ (m_row l4) = l1 → wp_X8_has_35 Q m_many m_row (wp_X8_has_5 Q m_many m_row n) l1 l4 0) ∧
  ((m_row l4) = l1 → wp_X8_has_30 Q m_many m_row (wp_X8_has_5 Q m_many m_row n) l1 l4)))))))
set_option maxHeartbeats 4000000 in
set_option maxRecDepth 100000 in
theorem s_X8_has_5 {X : Cx} (g : Gd X cX8_has RX8 (some .boolean) 5) (hR : X.R = rmL 1 0 0) (hX8 : Nat) (aX8_ups : Nat) (aX8_downs : Nat) (aX8_row : Nat) (m_isSpent : Int) (m_found : Int) (aX8_sumMany : Nat) (aX8_sumShares : Nat) (aX8_sumSet : Nat) (aX8_taken : Nat) (aX8_restUp : Nat) (aX8_restDown : Nat) (m_fewest : Int) (m_wishes : Int) (aX8_wished : Nat) (aX8_far : Nat) (aX8_queue : Nat) (m_divided : Int) (aX8_divisors : Nat) (aX8_least : Nat) (m_pairOne : Int) (m_pairTwo : Int) (m_sumUp : Int) (m_sumDown : Int) (m_many : Int) (m_row : Int → Int) (r_m_many : r32 m_many) (r_m_row : rr64 m_row) (Q : Int → Prop) (hF : FQ X 0 0 (po_X8_has X.cI X.cJ hX8 aX8_ups aX8_downs m_many aX8_row m_isSpent m_found aX8_sumMany aX8_sumShares aX8_sumSet aX8_taken aX8_restUp aX8_restDown m_fewest m_wishes aX8_wished aX8_far aX8_queue m_divided aX8_divisors aX8_least m_pairOne m_pairTwo m_sumUp m_sumDown m_row Q)) : ∀ (n : Nat) (l1 : Int) (l3 : Int) (l4 : Int), r64 l1 → r32 l3 → r32 l4 → wp_X8_has_5 Q m_many m_row n l1 l3 l4 → Wat X 0 0 5 [(0, .ref hX8), (1, .long (i64 l1)), (3, .int (i32 l3)), (4, .int (i32 l4))] [] [(hX8, .inr (7, [.ref aX8_ups, .ref aX8_downs, .int (i32 m_many), .ref aX8_row, .int (i32 m_isSpent), .int (i32 m_found), .ref aX8_sumMany, .ref aX8_sumShares, .ref aX8_sumSet, .ref aX8_taken, .ref aX8_restUp, .ref aX8_restDown, .int (i32 m_fewest), .int (i32 m_wishes), .ref aX8_wished, .ref aX8_far, .ref aX8_queue, .int (i32 m_divided), .ref aX8_divisors, .ref aX8_least, .long (i64 m_pairOne), .long (i64 m_pairTwo), .long (i64 m_sumUp), .long (i64 m_sumDown)])), (aX8_row, aL X.cJ 17 m_row)] := by
  intro n
  induction n with
  | zero => intro l1 l3 l4 r_l1 r_l3 r_l4 h; exact False.elim h
  | succ n ih =>
    intro l1 l3 l4 r_l1 r_l3 r_l4 h
    rw [wp_X8_has_5] at h
    refine q_iload g 4 3 rfl dX8_has_5 ?_
    refine q_aload_n g 0 0 rfl dX8_has_7 ?_
    refine q_get (C := RX8) (T := TX8) (N := 24) g 84 inX8 0 2 rfl rfl (by decide) wF_X8_84 rfl dX8_has_8 ?_
    refine q_icmp_ge g (31) 42 r_l4 r_m_many (by decide) dX8_has_11 (fun b11 => ?_) (fun b11 => ?_)
    · replace h := h.1 b11
      refine q_iload_n g 3 2 rfl dX8_has_42 ?_
      obtain ⟨z43, h⟩ := h
      exact q_zret g hF z43 ⟨l3, rfl, rfl, r_l3, h⟩ dX8_has_43
    replace h := h.2 b11
    refine q_iload_n g 3 2 rfl dX8_has_14 ?_
    refine q_if_ne g (15) 30 r_l3 (by decide) dX8_has_15 (fun b15 => ?_) (fun b15 => ?_)
    · replace h := h.1 b15
      refine q_lv (lv' := [(0, .ref hX8), (1, .long (i64 l1)), (4, .int (i32 l4))]) [0, 1, 3] rfl ?_
      exact s_X8_has_30 g hR hX8 aX8_ups aX8_downs aX8_row m_isSpent m_found aX8_sumMany aX8_sumShares aX8_sumSet aX8_taken aX8_restUp aX8_restDown m_fewest m_wishes aX8_wished aX8_far aX8_queue m_divided aX8_divisors aX8_least m_pairOne m_pairTwo m_sumUp m_sumDown m_many m_row r_m_many r_m_row Q hF (wp_X8_has_5 Q m_many m_row n) (fun v0 v1 v2 w0 w1 w2 hh => ih v0 v1 v2 w0 w1 w2 hh) l1 l4 r_l1 r_l4 h
    replace h := h.2 b15
    refine q_aload_n g 0 0 rfl dX8_has_18 ?_
    refine q_get (C := RX8) (T := TX8) (N := 24) g 16 inX8 0 3 rfl rfl (by decide) wF_X8_16 rfl dX8_has_19 ?_
    refine q_iload g 4 3 rfl dX8_has_22 ?_
    obtain ⟨c24, h⟩ := h
    obtain ⟨e24, h⟩ := h
    refine q_lald g 1 rfl c24 e24 (by decide) dX8_has_24 ?_
    refine q_lload_n g 1 1 rfl dX8_has_25 ?_
    refine q_lcmp_ne g (7) 34 (r_m_row _) r_l1 (by decide) dX8_has_26 dX8_has_27 (fun b26 => ?_) (fun b26 => ?_)
    · replace h := h.1 b26
      refine q_iconst g (0) dX8_has_34 ?_
      refine q_lv (lv' := [(0, .ref hX8), (1, .long (i64 l1)), (4, .int (i32 l4))]) [0, 1, 3] rfl ?_
      exact s_X8_has_35 g hR hX8 aX8_ups aX8_downs aX8_row m_isSpent m_found aX8_sumMany aX8_sumShares aX8_sumSet aX8_taken aX8_restUp aX8_restDown m_fewest m_wishes aX8_wished aX8_far aX8_queue m_divided aX8_divisors aX8_least m_pairOne m_pairTwo m_sumUp m_sumDown m_many m_row r_m_many r_m_row Q hF (wp_X8_has_5 Q m_many m_row n) (fun v0 v1 v2 w0 w1 w2 hh => ih v0 v1 v2 w0 w1 w2 hh) l1 l4 0 r_l1 r_l4 (r32_lit _ (by decide)) h
    replace h := h.2 b26
    refine q_lv (lv' := [(0, .ref hX8), (1, .long (i64 l1)), (4, .int (i32 l4))]) [0, 1, 3] rfl ?_
    exact s_X8_has_30 g hR hX8 aX8_ups aX8_downs aX8_row m_isSpent m_found aX8_sumMany aX8_sumShares aX8_sumSet aX8_taken aX8_restUp aX8_restDown m_fewest m_wishes aX8_wished aX8_far aX8_queue m_divided aX8_divisors aX8_least m_pairOne m_pairTwo m_sumUp m_sumDown m_many m_row r_m_many r_m_row Q hF (wp_X8_has_5 Q m_many m_row n) (fun v0 v1 v2 w0 w1 w2 hh => ih v0 v1 v2 w0 w1 w2 hh) l1 l4 r_l1 r_l4 h
def wp_X8_has (Q : Int → Prop) (m_many : Int) (m_row : Int → Int) (l1 : Int) : Prop := (∃ n0 : Nat, wp_X8_has_5 Q m_many m_row n0 l1 0 0)
set_option maxHeartbeats 4000000 in
set_option maxRecDepth 100000 in
theorem c_X8_has (l : Launch) (D : va_G) (cI cJ : ClassId) (zt : Nat) (hX8 : Nat) (aX8_ups : Nat) (aX8_downs : Nat) (m_many : Int) (aX8_row : Nat) (m_isSpent : Int) (m_found : Int) (aX8_sumMany : Nat) (aX8_sumShares : Nat) (aX8_sumSet : Nat) (aX8_taken : Nat) (aX8_restUp : Nat) (aX8_restDown : Nat) (m_fewest : Int) (m_wishes : Int) (aX8_wished : Nat) (aX8_far : Nat) (aX8_queue : Nat) (m_divided : Int) (aX8_divisors : Nat) (aX8_least : Nat) (m_pairOne : Int) (m_pairTwo : Int) (m_sumUp : Int) (m_sumDown : Int) (m_row : Int → Int) (l1 : Int) (Q : Int → Prop) (r_m_many : r32 m_many) (r_m_row : rr64 m_row) (r_l1 : r64 l1) (h : wp_X8_has Q m_many m_row l1) : Ct l D cI cJ zt yX8_has cX8_has 5 (some .boolean) 1 0 0 [.ref hX8, .long (i64 l1)] [(hX8, .inr (7, [.ref aX8_ups, .ref aX8_downs, .int (i32 m_many), .ref aX8_row, .int (i32 m_isSpent), .int (i32 m_found), .ref aX8_sumMany, .ref aX8_sumShares, .ref aX8_sumSet, .ref aX8_taken, .ref aX8_restUp, .ref aX8_restDown, .int (i32 m_fewest), .int (i32 m_wishes), .ref aX8_wished, .ref aX8_far, .ref aX8_queue, .int (i32 m_divided), .ref aX8_divisors, .ref aX8_least, .long (i64 m_pairOne), .long (i64 m_pairTwo), .long (i64 m_sumUp), .long (i64 m_sumDown)])), (aX8_row, aL cJ 17 m_row)] (po_X8_has cI cJ hX8 aX8_ups aX8_downs m_many aX8_row m_isSpent m_found aX8_sumMany aX8_sumShares aX8_sumSet aX8_taken aX8_restUp aX8_restDown m_fewest m_wishes aX8_wished aX8_far aX8_queue m_divided aX8_divisors aX8_least m_pairOne m_pairTwo m_sumUp m_sumDown m_row Q) := by
  refine ct_of (by decide +kernel) (Nat.le_of_ble_eq_true rfl) (fun X hl hDD hcI hcJ hzt hR hF hnm g => ?_)
  subst hl; subst hDD; subst hcI; subst hcJ; subst hzt
  show Wat X 0 0 0 [(0, .ref hX8), (1, .long (i64 l1))] [] [(hX8, .inr (7, [.ref aX8_ups, .ref aX8_downs, .int (i32 m_many), .ref aX8_row, .int (i32 m_isSpent), .int (i32 m_found), .ref aX8_sumMany, .ref aX8_sumShares, .ref aX8_sumSet, .ref aX8_taken, .ref aX8_restUp, .ref aX8_restDown, .int (i32 m_fewest), .int (i32 m_wishes), .ref aX8_wished, .ref aX8_far, .ref aX8_queue, .int (i32 m_divided), .ref aX8_divisors, .ref aX8_least, .long (i64 m_pairOne), .long (i64 m_pairTwo), .long (i64 m_sumUp), .long (i64 m_sumDown)])), (aX8_row, aL X.cJ 17 m_row)]
  replace g : Gd X cX8_has RX8 (some .boolean) 5 := g
  rw [wp_X8_has] at h
  refine q_iconst g (0) dX8_has_0 ?_
  refine q_istore_n (lv' := [(3, .int (i32 0)), (0, .ref hX8), (1, .long (i64 l1))]) g 3 3 rfl (by decide) rfl dX8_has_1 ?_
  refine q_iconst g (0) dX8_has_2 ?_
  refine q_istore (lv' := [(4, .int (i32 0)), (3, .int (i32 0)), (0, .ref hX8), (1, .long (i64 l1))]) g 4   (by decide) rfl dX8_has_3 ?_
  refine q_lv (lv' := [(0, .ref hX8), (1, .long (i64 l1)), (3, .int (i32 0)), (4, .int (i32 0))]) [2, 3, 1, 0] rfl ?_
  obtain ⟨n0, h⟩ := h
  exact s_X8_has_5 g hR hX8 aX8_ups aX8_downs aX8_row m_isSpent m_found aX8_sumMany aX8_sumShares aX8_sumSet aX8_taken aX8_restUp aX8_restDown m_fewest m_wishes aX8_wished aX8_far aX8_queue m_divided aX8_divisors aX8_least m_pairOne m_pairTwo m_sumUp m_sumDown m_many m_row r_m_many r_m_row Q hF n0 l1 0 0 r_l1 (r32_lit _ (by decide)) (r32_lit _ (by decide)) h
theorem dX8_greed_0 : decode cX8_greed 0 = .ok (.lload_n 1, 1) := by decide +kernel
theorem dX8_greed_1 : decode cX8_greed 1 = .ok (.lstore 6, 2) := by decide +kernel
theorem dX8_greed_3 : decode cX8_greed 3 = .ok (.lload_n 3, 1) := by decide +kernel
theorem dX8_greed_4 : decode cX8_greed 4 = .ok (.lstore 8, 2) := by decide +kernel
theorem dX8_greed_6 : decode cX8_greed 6 = .ok (.lload 6, 2) := by decide +kernel
theorem dX8_greed_8 : decode cX8_greed 8 = .ok (.lconst 0, 1) := by decide +kernel
theorem dX8_greed_9 : decode cX8_greed 9 = .ok (.lcmp, 1) := by decide +kernel
theorem dX8_greed_10 : decode cX8_greed 10 = .ok (.ifCond .le 178, 3) := by decide +kernel
theorem dX8_greed_13 : decode cX8_greed 13 = .ok (.aload_n 0, 1) := by decide +kernel
theorem dX8_greed_14 : decode cX8_greed 14 = .ok (.getfield 80, 3) := by decide +kernel
theorem dX8_greed_17 : decode cX8_greed 17 = .ok (.ifCond .ne 171, 3) := by decide +kernel
theorem dX8_greed_20 : decode cX8_greed 20 = .ok (.lload 8, 2) := by decide +kernel
theorem dX8_greed_22 : decode cX8_greed 22 = .ok (.lload 6, 2) := by decide +kernel
theorem dX8_greed_24 : decode cX8_greed 24 = .ok (.ladd, 1) := by decide +kernel
theorem dX8_greed_25 : decode cX8_greed 25 = .ok (.lconst 1, 1) := by decide +kernel
theorem dX8_greed_26 : decode cX8_greed 26 = .ok (.lsub, 1) := by decide +kernel
theorem dX8_greed_27 : decode cX8_greed 27 = .ok (.lload 6, 2) := by decide +kernel
theorem dX8_greed_29 : decode cX8_greed 29 = .ok (.ldiv, 1) := by decide +kernel
theorem dX8_greed_30 : decode cX8_greed 30 = .ok (.lstore 10, 2) := by decide +kernel
theorem dX8_greed_32 : decode cX8_greed 32 = .ok (.lload 10, 2) := by decide +kernel
theorem dX8_greed_34 : decode cX8_greed 34 = .ok (.iload 5, 2) := by decide +kernel
theorem dX8_greed_36 : decode cX8_greed 36 = .ok (.iconst 2, 1) := by decide +kernel
theorem dX8_greed_37 : decode cX8_greed 37 = .ok (.if_icmp .ne 18, 3) := by decide +kernel
theorem dX8_greed_40 : decode cX8_greed 40 = .ok (.lload 10, 2) := by decide +kernel
theorem dX8_greed_42 : decode cX8_greed 42 = .ok (.ldc2_w 89, 3) := by decide +kernel
theorem dX8_greed_45 : decode cX8_greed 45 = .ok (.lrem, 1) := by decide +kernel
theorem dX8_greed_46 : decode cX8_greed 46 = .ok (.lconst 0, 1) := by decide +kernel
theorem dX8_greed_47 : decode cX8_greed 47 = .ok (.lcmp, 1) := by decide +kernel
theorem dX8_greed_48 : decode cX8_greed 48 = .ok (.ifCond .ne 7, 3) := by decide +kernel
theorem dX8_greed_51 : decode cX8_greed 51 = .ok (.lconst 1, 1) := by decide +kernel
theorem dX8_greed_52 : decode cX8_greed 52 = .ok (.goto 4, 3) := by decide +kernel
theorem dX8_greed_55 : decode cX8_greed 55 = .ok (.lconst 0, 1) := by decide +kernel
theorem dX8_greed_56 : decode cX8_greed 56 = .ok (.ladd, 1) := by decide +kernel
theorem dX8_greed_57 : decode cX8_greed 57 = .ok (.lstore 10, 2) := by decide +kernel
theorem dX8_greed_59 : decode cX8_greed 59 = .ok (.aload_n 0, 1) := by decide +kernel
theorem dX8_greed_60 : decode cX8_greed 60 = .ok (.lload 10, 2) := by decide +kernel
theorem dX8_greed_62 : decode cX8_greed 62 = .ok (.invokevirtual 91, 3) := by decide +kernel
theorem dX8_greed_65 : decode cX8_greed 65 = .ok (.ifCond .eq 14, 3) := by decide +kernel
theorem dX8_greed_68 : decode cX8_greed 68 = .ok (.lload 10, 2) := by decide +kernel
theorem dX8_greed_70 : decode cX8_greed 70 = .ok (.iload 5, 2) := by decide +kernel
theorem dX8_greed_72 : decode cX8_greed 72 = .ok (.i2l, 1) := by decide +kernel
theorem dX8_greed_73 : decode cX8_greed 73 = .ok (.ladd, 1) := by decide +kernel
theorem dX8_greed_74 : decode cX8_greed 74 = .ok (.lstore 10, 2) := by decide +kernel
theorem dX8_greed_76 : decode cX8_greed 76 = .ok (.goto (-17), 3) := by decide +kernel
theorem dX8_greed_79 : decode cX8_greed 79 = .ok (.aload_n 0, 1) := by decide +kernel
theorem dX8_greed_80 : decode cX8_greed 80 = .ok (.lload 10, 2) := by decide +kernel
theorem dX8_greed_82 : decode cX8_greed 82 = .ok (.invokevirtual 95, 3) := by decide +kernel
theorem dX8_greed_85 : decode cX8_greed 85 = .ok (.lload 8, 2) := by decide +kernel
theorem dX8_greed_87 : decode cX8_greed 87 = .ok (.lload 10, 2) := by decide +kernel
theorem dX8_greed_89 : decode cX8_greed 89 = .ok (.invokestatic 64, 3) := by decide +kernel
theorem dX8_greed_92 : decode cX8_greed 92 = .ok (.lstore 12, 2) := by decide +kernel
theorem dX8_greed_94 : decode cX8_greed 94 = .ok (.aload_n 0, 1) := by decide +kernel
theorem dX8_greed_95 : decode cX8_greed 95 = .ok (.aload_n 0, 1) := by decide +kernel
theorem dX8_greed_96 : decode cX8_greed 96 = .ok (.getfield 80, 3) := by decide +kernel
theorem dX8_greed_99 : decode cX8_greed 99 = .ok (.ifCond .ne 18, 3) := by decide +kernel
theorem dX8_greed_102 : decode cX8_greed 102 = .ok (.lload 8, 2) := by decide +kernel
theorem dX8_greed_104 : decode cX8_greed 104 = .ok (.lload 12, 2) := by decide +kernel
theorem dX8_greed_106 : decode cX8_greed 106 = .ok (.ldiv, 1) := by decide +kernel
theorem dX8_greed_107 : decode cX8_greed 107 = .ok (.ldc2_w 99, 3) := by decide +kernel
theorem dX8_greed_110 : decode cX8_greed 110 = .ok (.lload 10, 2) := by decide +kernel
theorem dX8_greed_112 : decode cX8_greed 112 = .ok (.ldiv, 1) := by decide +kernel
theorem dX8_greed_113 : decode cX8_greed 113 = .ok (.lcmp, 1) := by decide +kernel
theorem dX8_greed_114 : decode cX8_greed 114 = .ok (.ifCond .le 7, 3) := by decide +kernel
theorem dX8_greed_117 : decode cX8_greed 117 = .ok (.iconst 1, 1) := by decide +kernel
theorem dX8_greed_118 : decode cX8_greed 118 = .ok (.goto 4, 3) := by decide +kernel
theorem dX8_greed_121 : decode cX8_greed 121 = .ok (.iconst 0, 1) := by decide +kernel
theorem dX8_greed_122 : decode cX8_greed 122 = .ok (.putfield 80, 3) := by decide +kernel
theorem dX8_greed_125 : decode cX8_greed 125 = .ok (.aload_n 0, 1) := by decide +kernel
theorem dX8_greed_126 : decode cX8_greed 126 = .ok (.getfield 80, 3) := by decide +kernel
theorem dX8_greed_129 : decode cX8_greed 129 = .ok (.ifCond .ne 56, 3) := by decide +kernel
theorem dX8_greed_132 : decode cX8_greed 132 = .ok (.lload 8, 2) := by decide +kernel
theorem dX8_greed_134 : decode cX8_greed 134 = .ok (.lload 12, 2) := by decide +kernel
theorem dX8_greed_136 : decode cX8_greed 136 = .ok (.ldiv, 1) := by decide +kernel
theorem dX8_greed_137 : decode cX8_greed 137 = .ok (.lload 10, 2) := by decide +kernel
theorem dX8_greed_139 : decode cX8_greed 139 = .ok (.lmul, 1) := by decide +kernel
theorem dX8_greed_140 : decode cX8_greed 140 = .ok (.lstore 14, 2) := by decide +kernel
theorem dX8_greed_142 : decode cX8_greed 142 = .ok (.lload 6, 2) := by decide +kernel
theorem dX8_greed_144 : decode cX8_greed 144 = .ok (.lload 14, 2) := by decide +kernel
theorem dX8_greed_146 : decode cX8_greed 146 = .ok (.lload 8, 2) := by decide +kernel
theorem dX8_greed_148 : decode cX8_greed 148 = .ok (.ldiv, 1) := by decide +kernel
theorem dX8_greed_149 : decode cX8_greed 149 = .ok (.lmul, 1) := by decide +kernel
theorem dX8_greed_150 : decode cX8_greed 150 = .ok (.lload 14, 2) := by decide +kernel
theorem dX8_greed_152 : decode cX8_greed 152 = .ok (.lload 10, 2) := by decide +kernel
theorem dX8_greed_154 : decode cX8_greed 154 = .ok (.ldiv, 1) := by decide +kernel
theorem dX8_greed_155 : decode cX8_greed 155 = .ok (.lsub, 1) := by decide +kernel
theorem dX8_greed_156 : decode cX8_greed 156 = .ok (.lstore 6, 2) := by decide +kernel
theorem dX8_greed_158 : decode cX8_greed 158 = .ok (.lload 14, 2) := by decide +kernel
theorem dX8_greed_160 : decode cX8_greed 160 = .ok (.lstore 8, 2) := by decide +kernel
theorem dX8_greed_162 : decode cX8_greed 162 = .ok (.lload 6, 2) := by decide +kernel
theorem dX8_greed_164 : decode cX8_greed 164 = .ok (.lload 8, 2) := by decide +kernel
theorem dX8_greed_166 : decode cX8_greed 166 = .ok (.invokestatic 64, 3) := by decide +kernel
theorem dX8_greed_169 : decode cX8_greed 169 = .ok (.lstore 12, 2) := by decide +kernel
theorem dX8_greed_171 : decode cX8_greed 171 = .ok (.lload 6, 2) := by decide +kernel
theorem dX8_greed_173 : decode cX8_greed 173 = .ok (.lload 12, 2) := by decide +kernel
theorem dX8_greed_175 : decode cX8_greed 175 = .ok (.ldiv, 1) := by decide +kernel
theorem dX8_greed_176 : decode cX8_greed 176 = .ok (.lstore 6, 2) := by decide +kernel
theorem dX8_greed_178 : decode cX8_greed 178 = .ok (.lload 8, 2) := by decide +kernel
theorem dX8_greed_180 : decode cX8_greed 180 = .ok (.lload 12, 2) := by decide +kernel
theorem dX8_greed_182 : decode cX8_greed 182 = .ok (.ldiv, 1) := by decide +kernel
theorem dX8_greed_183 : decode cX8_greed 183 = .ok (.lstore 8, 2) := by decide +kernel
theorem dX8_greed_185 : decode cX8_greed 185 = .ok (.goto (-179), 3) := by decide +kernel
theorem dX8_greed_188 : decode cX8_greed 188 = .ok (.return_, 1) := by decide +kernel
abbrev po_X8_greed (cI cJ : ClassId) (hX8 : Nat) (aX8_ups : Nat) (aX8_downs : Nat) (aX8_row : Nat) (m_found : Int) (aX8_sumMany : Nat) (aX8_sumShares : Nat) (aX8_sumSet : Nat) (aX8_taken : Nat) (aX8_restUp : Nat) (aX8_restDown : Nat) (m_fewest : Int) (m_wishes : Int) (aX8_wished : Nat) (aX8_far : Nat) (aX8_queue : Nat) (m_divided : Int) (aX8_divisors : Nat) (aX8_least : Nat) (m_pairOne : Int) (m_pairTwo : Int) (m_sumUp : Int) (m_sumDown : Int) (Q : Int → (Int → Int) → Int → Prop) : Option Value → va_W → Prop := fun rv w1 => ∃ (m_many : Int) (m_row : Int → Int) (m_isSpent : Int), rv = none ∧ w1 = [(hX8, .inr (7, [.ref aX8_ups, .ref aX8_downs, .int (i32 m_many), .ref aX8_row, .int (i32 m_isSpent), .int (i32 m_found), .ref aX8_sumMany, .ref aX8_sumShares, .ref aX8_sumSet, .ref aX8_taken, .ref aX8_restUp, .ref aX8_restDown, .int (i32 m_fewest), .int (i32 m_wishes), .ref aX8_wished, .ref aX8_far, .ref aX8_queue, .int (i32 m_divided), .ref aX8_divisors, .ref aX8_least, .long (i64 m_pairOne), .long (i64 m_pairTwo), .long (i64 m_sumUp), .long (i64 m_sumDown)])), (aX8_row, aL cJ 17 m_row)] ∧ r32 m_many ∧ rr64 m_row ∧ r32 m_isSpent ∧ Q m_many m_row m_isSpent
def wp_X8_greed_185 (Q : Int → (Int → Int) → Int → Prop) (K_6 : Int → (Int → Int) → Int → Int → Int → Int → Prop) (m_many : Int) (m_row : Int → Int) (m_isSpent : Int) (l5 : Int) (l6 : Int) (l8 : Int) : Prop := K_6 m_many m_row m_isSpent l5 l6 l8
set_option maxHeartbeats 4000000 in
set_option maxRecDepth 100000 in
theorem s_X8_greed_185 {X : Cx} (g : Gd X cX8_greed RX8 none 16) (hR : X.R = rmL 2 0 0) (hX8 : Nat) (aX8_ups : Nat) (aX8_downs : Nat) (aX8_row : Nat) (m_found : Int) (aX8_sumMany : Nat) (aX8_sumShares : Nat) (aX8_sumSet : Nat) (aX8_taken : Nat) (aX8_restUp : Nat) (aX8_restDown : Nat) (m_fewest : Int) (m_wishes : Int) (aX8_wished : Nat) (aX8_far : Nat) (aX8_queue : Nat) (m_divided : Int) (aX8_divisors : Nat) (aX8_least : Nat) (m_pairOne : Int) (m_pairTwo : Int) (m_sumUp : Int) (m_sumDown : Int) (Q : Int → (Int → Int) → Int → Prop) (hF : FQ X 0 0 (po_X8_greed X.cI X.cJ hX8 aX8_ups aX8_downs aX8_row m_found aX8_sumMany aX8_sumShares aX8_sumSet aX8_taken aX8_restUp aX8_restDown m_fewest m_wishes aX8_wished aX8_far aX8_queue m_divided aX8_divisors aX8_least m_pairOne m_pairTwo m_sumUp m_sumDown Q)) (K_6 : Int → (Int → Int) → Int → Int → Int → Int → Prop) (hK_6 : ∀ (m_many : Int) (m_row : Int → Int) (m_isSpent : Int) (l5 : Int) (l6 : Int) (l8 : Int), r32 m_many → rr64 m_row → r32 m_isSpent → r32 l5 → r64 l6 → r64 l8 → K_6 m_many m_row m_isSpent l5 l6 l8 → Wat X 0 0 6 [(0, .ref hX8), (5, .int (i32 l5)), (6, .long (i64 l6)), (8, .long (i64 l8))] [] [(hX8, .inr (7, [.ref aX8_ups, .ref aX8_downs, .int (i32 m_many), .ref aX8_row, .int (i32 m_isSpent), .int (i32 m_found), .ref aX8_sumMany, .ref aX8_sumShares, .ref aX8_sumSet, .ref aX8_taken, .ref aX8_restUp, .ref aX8_restDown, .int (i32 m_fewest), .int (i32 m_wishes), .ref aX8_wished, .ref aX8_far, .ref aX8_queue, .int (i32 m_divided), .ref aX8_divisors, .ref aX8_least, .long (i64 m_pairOne), .long (i64 m_pairTwo), .long (i64 m_sumUp), .long (i64 m_sumDown)])), (aX8_row, aL X.cJ 17 m_row)]) : ∀ (m_many : Int) (m_row : Int → Int) (m_isSpent : Int) (l5 : Int) (l6 : Int) (l8 : Int), r32 m_many → rr64 m_row → r32 m_isSpent → r32 l5 → r64 l6 → r64 l8 → wp_X8_greed_185 Q K_6 m_many m_row m_isSpent l5 l6 l8 → Wat X 0 0 185 [(0, .ref hX8), (5, .int (i32 l5)), (6, .long (i64 l6)), (8, .long (i64 l8))] [] [(hX8, .inr (7, [.ref aX8_ups, .ref aX8_downs, .int (i32 m_many), .ref aX8_row, .int (i32 m_isSpent), .int (i32 m_found), .ref aX8_sumMany, .ref aX8_sumShares, .ref aX8_sumSet, .ref aX8_taken, .ref aX8_restUp, .ref aX8_restDown, .int (i32 m_fewest), .int (i32 m_wishes), .ref aX8_wished, .ref aX8_far, .ref aX8_queue, .int (i32 m_divided), .ref aX8_divisors, .ref aX8_least, .long (i64 m_pairOne), .long (i64 m_pairTwo), .long (i64 m_sumUp), .long (i64 m_sumDown)])), (aX8_row, aL X.cJ 17 m_row)] := by
  intro m_many m_row m_isSpent l5 l6 l8 r_m_many r_m_row r_m_isSpent r_l5 r_l6 r_l8 h
  rw [wp_X8_greed_185] at h
  refine q_goto g (-179) 6 (by decide) dX8_greed_185 ?_
  exact hK_6 m_many m_row m_isSpent l5 l6 l8 r_m_many r_m_row r_m_isSpent r_l5 r_l6 r_l8 h
def wp_X8_greed_122 (Q : Int → (Int → Int) → Int → Prop) (K_6 : Int → (Int → Int) → Int → Int → Int → Int → Prop) (m_many : Int) (m_row : Int → Int) (m_isSpent : Int) (l5 : Int) (l6 : Int) (l8 : Int) (l10 : Int) (l12 : Int) (k1 : Int) : Prop := ((k1 = 0 ∨ k1 = 1) ∧ ((¬ k1 = 0 → wp_X8_greed_185 Q K_6 m_many m_row k1 l5 l6 l8) ∧
  (k1 = 0 → (0 < l12 ∧ r64 ((l8.tdiv l12) * l10) ∧ ∀ x140 : Int, x140 = ((l8.tdiv l12) * l10) → 0 < l8 ∧ r64 (l6 * (x140.tdiv l8)) ∧ 0 < l10 ∧ r64 ((l6 * (x140.tdiv l8)) - (x140.tdiv l10)) ∧ ∀ x156 : Int, x156 = ((l6 * (x140.tdiv l8)) - (x140.tdiv l10)) → wp_X8_gcd (fun (x166 : Int) => (0 < x166 ∧ ∀ x176 : Int, x176 = (x156.tdiv x166) → 0 < x166 ∧ ∀ x183 : Int, x183 = (x140.tdiv x166) → wp_X8_greed_185 Q K_6 m_many m_row k1 l5 x176 x183)) x156 x140))))
set_option maxHeartbeats 4000000 in
set_option maxRecDepth 100000 in
theorem s_X8_greed_122 {X : Cx} (g : Gd X cX8_greed RX8 none 16) (hR : X.R = rmL 2 0 0) (hX8 : Nat) (aX8_ups : Nat) (aX8_downs : Nat) (aX8_row : Nat) (m_found : Int) (aX8_sumMany : Nat) (aX8_sumShares : Nat) (aX8_sumSet : Nat) (aX8_taken : Nat) (aX8_restUp : Nat) (aX8_restDown : Nat) (m_fewest : Int) (m_wishes : Int) (aX8_wished : Nat) (aX8_far : Nat) (aX8_queue : Nat) (m_divided : Int) (aX8_divisors : Nat) (aX8_least : Nat) (m_pairOne : Int) (m_pairTwo : Int) (m_sumUp : Int) (m_sumDown : Int) (Q : Int → (Int → Int) → Int → Prop) (hF : FQ X 0 0 (po_X8_greed X.cI X.cJ hX8 aX8_ups aX8_downs aX8_row m_found aX8_sumMany aX8_sumShares aX8_sumSet aX8_taken aX8_restUp aX8_restDown m_fewest m_wishes aX8_wished aX8_far aX8_queue m_divided aX8_divisors aX8_least m_pairOne m_pairTwo m_sumUp m_sumDown Q)) (K_6 : Int → (Int → Int) → Int → Int → Int → Int → Prop) (hK_6 : ∀ (m_many : Int) (m_row : Int → Int) (m_isSpent : Int) (l5 : Int) (l6 : Int) (l8 : Int), r32 m_many → rr64 m_row → r32 m_isSpent → r32 l5 → r64 l6 → r64 l8 → K_6 m_many m_row m_isSpent l5 l6 l8 → Wat X 0 0 6 [(0, .ref hX8), (5, .int (i32 l5)), (6, .long (i64 l6)), (8, .long (i64 l8))] [] [(hX8, .inr (7, [.ref aX8_ups, .ref aX8_downs, .int (i32 m_many), .ref aX8_row, .int (i32 m_isSpent), .int (i32 m_found), .ref aX8_sumMany, .ref aX8_sumShares, .ref aX8_sumSet, .ref aX8_taken, .ref aX8_restUp, .ref aX8_restDown, .int (i32 m_fewest), .int (i32 m_wishes), .ref aX8_wished, .ref aX8_far, .ref aX8_queue, .int (i32 m_divided), .ref aX8_divisors, .ref aX8_least, .long (i64 m_pairOne), .long (i64 m_pairTwo), .long (i64 m_sumUp), .long (i64 m_sumDown)])), (aX8_row, aL X.cJ 17 m_row)]) : ∀ (m_many : Int) (m_row : Int → Int) (m_isSpent : Int) (l5 : Int) (l6 : Int) (l8 : Int) (l10 : Int) (l12 : Int) (k1 : Int), r32 m_many → rr64 m_row → r32 m_isSpent → r32 l5 → r64 l6 → r64 l8 → r64 l10 → r64 l12 → r32 k1 → wp_X8_greed_122 Q K_6 m_many m_row m_isSpent l5 l6 l8 l10 l12 k1 → Wat X 0 0 122 [(0, .ref hX8), (5, .int (i32 l5)), (6, .long (i64 l6)), (8, .long (i64 l8)), (10, .long (i64 l10)), (12, .long (i64 l12))] [.int (i32 k1), .ref hX8] [(hX8, .inr (7, [.ref aX8_ups, .ref aX8_downs, .int (i32 m_many), .ref aX8_row, .int (i32 m_isSpent), .int (i32 m_found), .ref aX8_sumMany, .ref aX8_sumShares, .ref aX8_sumSet, .ref aX8_taken, .ref aX8_restUp, .ref aX8_restDown, .int (i32 m_fewest), .int (i32 m_wishes), .ref aX8_wished, .ref aX8_far, .ref aX8_queue, .int (i32 m_divided), .ref aX8_divisors, .ref aX8_least, .long (i64 m_pairOne), .long (i64 m_pairTwo), .long (i64 m_sumUp), .long (i64 m_sumDown)])), (aX8_row, aL X.cJ 17 m_row)] := by
  intro m_many m_row m_isSpent l5 l6 l8 l10 l12 k1 r_m_many r_m_row r_m_isSpent r_l5 r_l6 r_l8 r_l10 r_l12 r_k1 h
  rw [wp_X8_greed_122] at h
  obtain ⟨z122, h⟩ := h
  refine q_put (C := RX8) (T := TX8) (N := 24) (ty := .boolean) (ws' := [(hX8, .inr (7, [.ref aX8_ups, .ref aX8_downs, .int (i32 m_many), .ref aX8_row, .int (i32 k1), .int (i32 m_found), .ref aX8_sumMany, .ref aX8_sumShares, .ref aX8_sumSet, .ref aX8_taken, .ref aX8_restUp, .ref aX8_restDown, .int (i32 m_fewest), .int (i32 m_wishes), .ref aX8_wished, .ref aX8_far, .ref aX8_queue, .int (i32 m_divided), .ref aX8_divisors, .ref aX8_least, .long (i64 m_pairOne), .long (i64 m_pairTwo), .long (i64 m_sumUp), .long (i64 m_sumDown)])), (aX8_row, aL X.cJ 17 m_row)]) g 80 inX8 tyX8_ok nmX8 0 4 rfl rfl (by decide) wF_X8_80 rfl rfl (zb_n z122) (zb_f z122) (Nat.le_of_ble_eq_true rfl) rfl dX8_greed_122 ?_
  refine q_aload_n g 0 0 rfl dX8_greed_125 ?_
  refine q_get (C := RX8) (T := TX8) (N := 24) g 80 inX8 0 4 rfl rfl (by decide) wF_X8_80 rfl dX8_greed_126 ?_
  refine q_if_ne g (56) 185 r_k1 (by decide) dX8_greed_129 (fun b129 => ?_) (fun b129 => ?_)
  · replace h := h.1 b129
    refine q_lv (lv' := [(0, .ref hX8), (5, .int (i32 l5)), (6, .long (i64 l6)), (8, .long (i64 l8))]) [0, 1, 2, 3] rfl ?_
    exact s_X8_greed_185 g hR hX8 aX8_ups aX8_downs aX8_row m_found aX8_sumMany aX8_sumShares aX8_sumSet aX8_taken aX8_restUp aX8_restDown m_fewest m_wishes aX8_wished aX8_far aX8_queue m_divided aX8_divisors aX8_least m_pairOne m_pairTwo m_sumUp m_sumDown Q hF K_6 hK_6 m_many m_row k1 l5 l6 l8 r_m_many r_m_row r_k1 r_l5 r_l6 r_l8 h
  replace h := h.2 b129
  refine q_lload g 8 3 rfl dX8_greed_132 ?_
  refine q_lload g 12 5 rfl dX8_greed_134 ?_
  obtain ⟨c136, h⟩ := h
  refine q_ldiv g r_l8 r_l12 (ne_of_pos c136) dX8_greed_136 ?_
  refine q_lload g 10 4 rfl dX8_greed_137 ?_
  obtain ⟨c139, h⟩ := h
  refine q_lmul g dX8_greed_139 ?_
  refine q_topl c139 (fun x140 ex140 rx140 => ?_)
  replace h := h x140 ex140
  refine q_lstore (lv' := [(14, .long (i64 x140)), (0, .ref hX8), (5, .int (i32 l5)), (6, .long (i64 l6)), (8, .long (i64 l8)), (10, .long (i64 l10)), (12, .long (i64 l12))]) g 14   (by decide) rfl dX8_greed_140 ?_
  refine q_lload g 6 3 rfl dX8_greed_142 ?_
  refine q_lload g 14 0 rfl dX8_greed_144 ?_
  refine q_lload g 8 4 rfl dX8_greed_146 ?_
  obtain ⟨c148, h⟩ := h
  refine q_ldiv g rx140 r_l8 (ne_of_pos c148) dX8_greed_148 ?_
  obtain ⟨c149, h⟩ := h
  refine q_lmul g dX8_greed_149 ?_
  refine q_lload g 14 0 rfl dX8_greed_150 ?_
  refine q_lload g 10 5 rfl dX8_greed_152 ?_
  obtain ⟨c154, h⟩ := h
  refine q_ldiv g rx140 r_l10 (ne_of_pos c154) dX8_greed_154 ?_
  obtain ⟨c155, h⟩ := h
  refine q_lsub g dX8_greed_155 ?_
  refine q_topl c155 (fun x156 ex156 rx156 => ?_)
  replace h := h x156 ex156
  refine q_lstore (lv' := [(6, .long (i64 x156)), (14, .long (i64 x140)), (0, .ref hX8), (5, .int (i32 l5)), (8, .long (i64 l8)), (10, .long (i64 l10)), (12, .long (i64 l12))]) g 6   (by decide) rfl dX8_greed_156 ?_
  refine q_lload g 14 1 rfl dX8_greed_158 ?_
  refine q_lstore (lv' := [(8, .long (i64 x140)), (6, .long (i64 x156)), (14, .long (i64 x140)), (0, .ref hX8), (5, .int (i32 l5)), (10, .long (i64 l10)), (12, .long (i64 l12))]) g 8   (by decide) rfl dX8_greed_160 ?_
  refine q_lload g 6 1 rfl dX8_greed_162 ?_
  refine q_lload g 8 0 rfl dX8_greed_164 ?_
  refine q_callS (lev := 1) (mc := 0) (ms := 0) (As := [.long (i64 x156), .long (i64 x140)]) g 64 (c_X8_gcd X.l X.D X.cI X.cJ X.zt x156 x140 _ rx156 rx140 h) (wr := [(hX8, .inr (7, [.ref aX8_ups, .ref aX8_downs, .int (i32 m_many), .ref aX8_row, .int (i32 k1), .int (i32 m_found), .ref aX8_sumMany, .ref aX8_sumShares, .ref aX8_sumSet, .ref aX8_taken, .ref aX8_restUp, .ref aX8_restDown, .int (i32 m_fewest), .int (i32 m_wishes), .ref aX8_wished, .ref aX8_far, .ref aX8_queue, .int (i32 m_divided), .ref aX8_divisors, .ref aX8_least, .long (i64 m_pairOne), .long (i64 m_pairTwo), .long (i64 m_sumUp), .long (i64 m_sumDown)])), (aX8_row, aL X.cJ 17 m_row)]) [] [0, 1] rfl rfl rfl (by decide) (by decide) (by decide) wM_X8_64 wT_X8_gcd wZ_X8 wC_X8_gcd 2 rfl (by decide +kernel) (by rw [hR]; exact ⟨by show 1 + 1 ≤ 2; omega, by show 8 + (10 + 11) + 100 * 1 ≤ 100 * 2; omega⟩) (by rw [hR]; exact ⟨Nat.le_refl _, Nat.le_refl _⟩) (Nat.le_of_ble_eq_true rfl) rfl dX8_greed_166 (fun rv w1 hq => ?_)
  obtain ⟨x166, rfl, rfl, rx166, h⟩ := hq
  show Wat X 0 0 169 [(8, .long (i64 x140)), (6, .long (i64 x156)), (14, .long (i64 x140)), (0, .ref hX8), (5, .int (i32 l5)), (10, .long (i64 l10)), (12, .long (i64 l12))] [.long (i64 x166)] [(hX8, .inr (7, [.ref aX8_ups, .ref aX8_downs, .int (i32 m_many), .ref aX8_row, .int (i32 k1), .int (i32 m_found), .ref aX8_sumMany, .ref aX8_sumShares, .ref aX8_sumSet, .ref aX8_taken, .ref aX8_restUp, .ref aX8_restDown, .int (i32 m_fewest), .int (i32 m_wishes), .ref aX8_wished, .ref aX8_far, .ref aX8_queue, .int (i32 m_divided), .ref aX8_divisors, .ref aX8_least, .long (i64 m_pairOne), .long (i64 m_pairTwo), .long (i64 m_sumUp), .long (i64 m_sumDown)])), (aX8_row, aL X.cJ 17 m_row)]
  refine q_lstore (lv' := [(12, .long (i64 x166)), (8, .long (i64 x140)), (6, .long (i64 x156)), (14, .long (i64 x140)), (0, .ref hX8), (5, .int (i32 l5)), (10, .long (i64 l10))]) g 12   (by decide) rfl dX8_greed_169 ?_
  refine q_lload g 6 2 rfl dX8_greed_171 ?_
  refine q_lload g 12 0 rfl dX8_greed_173 ?_
  obtain ⟨c175, h⟩ := h
  refine q_ldiv g rx156 rx166 (ne_of_pos c175) dX8_greed_175 ?_
  refine q_topl (r64_tdiv rx156 c175) (fun x176 ex176 rx176 => ?_)
  replace h := h x176 ex176
  refine q_lstore (lv' := [(6, .long (i64 x176)), (12, .long (i64 x166)), (8, .long (i64 x140)), (14, .long (i64 x140)), (0, .ref hX8), (5, .int (i32 l5)), (10, .long (i64 l10))]) g 6   (by decide) rfl dX8_greed_176 ?_
  refine q_lload g 8 2 rfl dX8_greed_178 ?_
  refine q_lload g 12 1 rfl dX8_greed_180 ?_
  obtain ⟨c182, h⟩ := h
  refine q_ldiv g rx140 rx166 (ne_of_pos c182) dX8_greed_182 ?_
  refine q_topl (r64_tdiv rx140 c182) (fun x183 ex183 rx183 => ?_)
  replace h := h x183 ex183
  refine q_lstore (lv' := [(8, .long (i64 x183)), (6, .long (i64 x176)), (12, .long (i64 x166)), (14, .long (i64 x140)), (0, .ref hX8), (5, .int (i32 l5)), (10, .long (i64 l10))]) g 8   (by decide) rfl dX8_greed_183 ?_
  refine q_lv (lv' := [(0, .ref hX8), (5, .int (i32 l5)), (6, .long (i64 x176)), (8, .long (i64 x183))]) [4, 5, 1, 0] rfl ?_
  exact s_X8_greed_185 g hR hX8 aX8_ups aX8_downs aX8_row m_found aX8_sumMany aX8_sumShares aX8_sumSet aX8_taken aX8_restUp aX8_restDown m_fewest m_wishes aX8_wished aX8_far aX8_queue m_divided aX8_divisors aX8_least m_pairOne m_pairTwo m_sumUp m_sumDown Q hF K_6 hK_6 m_many m_row k1 l5 x176 x183 r_m_many r_m_row r_k1 r_l5 rx176 rx183 h
def wp_X8_greed_117 (Q : Int → (Int → Int) → Int → Prop) (K_6 : Int → (Int → Int) → Int → Int → Int → Int → Prop) (m_many : Int) (m_row : Int → Int) (m_isSpent : Int) (l5 : Int) (l6 : Int) (l8 : Int) (l10 : Int) (l12 : Int) : Prop := wp_X8_greed_122 Q K_6 m_many m_row m_isSpent l5 l6 l8 l10 l12 1
set_option maxHeartbeats 4000000 in
set_option maxRecDepth 100000 in
theorem s_X8_greed_117 {X : Cx} (g : Gd X cX8_greed RX8 none 16) (hR : X.R = rmL 2 0 0) (hX8 : Nat) (aX8_ups : Nat) (aX8_downs : Nat) (aX8_row : Nat) (m_found : Int) (aX8_sumMany : Nat) (aX8_sumShares : Nat) (aX8_sumSet : Nat) (aX8_taken : Nat) (aX8_restUp : Nat) (aX8_restDown : Nat) (m_fewest : Int) (m_wishes : Int) (aX8_wished : Nat) (aX8_far : Nat) (aX8_queue : Nat) (m_divided : Int) (aX8_divisors : Nat) (aX8_least : Nat) (m_pairOne : Int) (m_pairTwo : Int) (m_sumUp : Int) (m_sumDown : Int) (Q : Int → (Int → Int) → Int → Prop) (hF : FQ X 0 0 (po_X8_greed X.cI X.cJ hX8 aX8_ups aX8_downs aX8_row m_found aX8_sumMany aX8_sumShares aX8_sumSet aX8_taken aX8_restUp aX8_restDown m_fewest m_wishes aX8_wished aX8_far aX8_queue m_divided aX8_divisors aX8_least m_pairOne m_pairTwo m_sumUp m_sumDown Q)) (K_6 : Int → (Int → Int) → Int → Int → Int → Int → Prop) (hK_6 : ∀ (m_many : Int) (m_row : Int → Int) (m_isSpent : Int) (l5 : Int) (l6 : Int) (l8 : Int), r32 m_many → rr64 m_row → r32 m_isSpent → r32 l5 → r64 l6 → r64 l8 → K_6 m_many m_row m_isSpent l5 l6 l8 → Wat X 0 0 6 [(0, .ref hX8), (5, .int (i32 l5)), (6, .long (i64 l6)), (8, .long (i64 l8))] [] [(hX8, .inr (7, [.ref aX8_ups, .ref aX8_downs, .int (i32 m_many), .ref aX8_row, .int (i32 m_isSpent), .int (i32 m_found), .ref aX8_sumMany, .ref aX8_sumShares, .ref aX8_sumSet, .ref aX8_taken, .ref aX8_restUp, .ref aX8_restDown, .int (i32 m_fewest), .int (i32 m_wishes), .ref aX8_wished, .ref aX8_far, .ref aX8_queue, .int (i32 m_divided), .ref aX8_divisors, .ref aX8_least, .long (i64 m_pairOne), .long (i64 m_pairTwo), .long (i64 m_sumUp), .long (i64 m_sumDown)])), (aX8_row, aL X.cJ 17 m_row)]) : ∀ (m_many : Int) (m_row : Int → Int) (m_isSpent : Int) (l5 : Int) (l6 : Int) (l8 : Int) (l10 : Int) (l12 : Int), r32 m_many → rr64 m_row → r32 m_isSpent → r32 l5 → r64 l6 → r64 l8 → r64 l10 → r64 l12 → wp_X8_greed_117 Q K_6 m_many m_row m_isSpent l5 l6 l8 l10 l12 → Wat X 0 0 117 [(0, .ref hX8), (5, .int (i32 l5)), (6, .long (i64 l6)), (8, .long (i64 l8)), (10, .long (i64 l10)), (12, .long (i64 l12))] [.ref hX8] [(hX8, .inr (7, [.ref aX8_ups, .ref aX8_downs, .int (i32 m_many), .ref aX8_row, .int (i32 m_isSpent), .int (i32 m_found), .ref aX8_sumMany, .ref aX8_sumShares, .ref aX8_sumSet, .ref aX8_taken, .ref aX8_restUp, .ref aX8_restDown, .int (i32 m_fewest), .int (i32 m_wishes), .ref aX8_wished, .ref aX8_far, .ref aX8_queue, .int (i32 m_divided), .ref aX8_divisors, .ref aX8_least, .long (i64 m_pairOne), .long (i64 m_pairTwo), .long (i64 m_sumUp), .long (i64 m_sumDown)])), (aX8_row, aL X.cJ 17 m_row)] := by
  intro m_many m_row m_isSpent l5 l6 l8 l10 l12 r_m_many r_m_row r_m_isSpent r_l5 r_l6 r_l8 r_l10 r_l12 h
  rw [wp_X8_greed_117] at h
  refine q_iconst g (1) dX8_greed_117 ?_
  refine q_goto g (4) 122 (by decide) dX8_greed_118 ?_
  exact s_X8_greed_122 g hR hX8 aX8_ups aX8_downs aX8_row m_found aX8_sumMany aX8_sumShares aX8_sumSet aX8_taken aX8_restUp aX8_restDown m_fewest m_wishes aX8_wished aX8_far aX8_queue m_divided aX8_divisors aX8_least m_pairOne m_pairTwo m_sumUp m_sumDown Q hF K_6 hK_6 m_many m_row m_isSpent l5 l6 l8 l10 l12 1 r_m_many r_m_row r_m_isSpent r_l5 r_l6 r_l8 r_l10 r_l12 (r32_lit _ (by decide)) h
def wp_X8_greed_59 (Q : Int → (Int → Int) → Int → Prop) (K_6 : Int → (Int → Int) → Int → Int → Int → Int → Prop) : Nat → Int → (Int → Int) → Int → Int → Int → Int → Int → Prop
  | 0, _, _, _, _, _, _, _ => False
  | n + 1, m_many, m_row, m_isSpent, l5, l6, l8, l10 => wp_X8_has (fun (x62 : Int) => ((x62 = 0 → wp_X8_put (fun (m_many_82 : Int) (m_row_82 : Int → Int) (m_isSpent_82 : Int) => wp_X8_gcd (fun (x89 : Int) => ((¬ m_isSpent_82 = 0 → wp_X8_greed_117 Q K_6 m_many_82 m_row_82 m_isSpent_82 l5 l6 l8 l10 x89) ∧
  (m_isSpent_82 = 0 → (0 < x89 ∧ 0 < l10 ∧ (((l8.tdiv x89) ≤ (Int.tdiv 1000000000000000 l10) → wp_X8_greed_122 Q K_6 m_many_82 m_row_82 m_isSpent_82 l5 l6 l8 l10 x89 0) ∧
  (¬ ((l8.tdiv x89) ≤ (Int.tdiv 1000000000000000 l10)) → wp_X8_greed_117 Q K_6 m_many_82 m_row_82 m_isSpent_82 l5 l6 l8 l10 x89)))))) l8 l10) m_many m_row m_isSpent l10) ∧
  (¬ (x62 = 0) → (r64 (l10 + l5) ∧ ∀ x74 : Int, x74 = (l10 + l5) → wp_X8_greed_59 Q K_6 n m_many m_row m_isSpent l5 l6 l8 x74)))) m_many m_row l10
set_option maxHeartbeats 4000000 in
set_option maxRecDepth 100000 in
theorem s_X8_greed_59 {X : Cx} (g : Gd X cX8_greed RX8 none 16) (hR : X.R = rmL 2 0 0) (hX8 : Nat) (aX8_ups : Nat) (aX8_downs : Nat) (aX8_row : Nat) (m_found : Int) (aX8_sumMany : Nat) (aX8_sumShares : Nat) (aX8_sumSet : Nat) (aX8_taken : Nat) (aX8_restUp : Nat) (aX8_restDown : Nat) (m_fewest : Int) (m_wishes : Int) (aX8_wished : Nat) (aX8_far : Nat) (aX8_queue : Nat) (m_divided : Int) (aX8_divisors : Nat) (aX8_least : Nat) (m_pairOne : Int) (m_pairTwo : Int) (m_sumUp : Int) (m_sumDown : Int) (Q : Int → (Int → Int) → Int → Prop) (hF : FQ X 0 0 (po_X8_greed X.cI X.cJ hX8 aX8_ups aX8_downs aX8_row m_found aX8_sumMany aX8_sumShares aX8_sumSet aX8_taken aX8_restUp aX8_restDown m_fewest m_wishes aX8_wished aX8_far aX8_queue m_divided aX8_divisors aX8_least m_pairOne m_pairTwo m_sumUp m_sumDown Q)) (K_6 : Int → (Int → Int) → Int → Int → Int → Int → Prop) (hK_6 : ∀ (m_many : Int) (m_row : Int → Int) (m_isSpent : Int) (l5 : Int) (l6 : Int) (l8 : Int), r32 m_many → rr64 m_row → r32 m_isSpent → r32 l5 → r64 l6 → r64 l8 → K_6 m_many m_row m_isSpent l5 l6 l8 → Wat X 0 0 6 [(0, .ref hX8), (5, .int (i32 l5)), (6, .long (i64 l6)), (8, .long (i64 l8))] [] [(hX8, .inr (7, [.ref aX8_ups, .ref aX8_downs, .int (i32 m_many), .ref aX8_row, .int (i32 m_isSpent), .int (i32 m_found), .ref aX8_sumMany, .ref aX8_sumShares, .ref aX8_sumSet, .ref aX8_taken, .ref aX8_restUp, .ref aX8_restDown, .int (i32 m_fewest), .int (i32 m_wishes), .ref aX8_wished, .ref aX8_far, .ref aX8_queue, .int (i32 m_divided), .ref aX8_divisors, .ref aX8_least, .long (i64 m_pairOne), .long (i64 m_pairTwo), .long (i64 m_sumUp), .long (i64 m_sumDown)])), (aX8_row, aL X.cJ 17 m_row)]) : ∀ (n : Nat) (m_many : Int) (m_row : Int → Int) (m_isSpent : Int) (l5 : Int) (l6 : Int) (l8 : Int) (l10 : Int), r32 m_many → rr64 m_row → r32 m_isSpent → r32 l5 → r64 l6 → r64 l8 → r64 l10 → wp_X8_greed_59 Q K_6 n m_many m_row m_isSpent l5 l6 l8 l10 → Wat X 0 0 59 [(0, .ref hX8), (5, .int (i32 l5)), (6, .long (i64 l6)), (8, .long (i64 l8)), (10, .long (i64 l10))] [] [(hX8, .inr (7, [.ref aX8_ups, .ref aX8_downs, .int (i32 m_many), .ref aX8_row, .int (i32 m_isSpent), .int (i32 m_found), .ref aX8_sumMany, .ref aX8_sumShares, .ref aX8_sumSet, .ref aX8_taken, .ref aX8_restUp, .ref aX8_restDown, .int (i32 m_fewest), .int (i32 m_wishes), .ref aX8_wished, .ref aX8_far, .ref aX8_queue, .int (i32 m_divided), .ref aX8_divisors, .ref aX8_least, .long (i64 m_pairOne), .long (i64 m_pairTwo), .long (i64 m_sumUp), .long (i64 m_sumDown)])), (aX8_row, aL X.cJ 17 m_row)] := by
  intro n
  induction n with
  | zero => intro m_many m_row m_isSpent l5 l6 l8 l10 r_m_many r_m_row r_m_isSpent r_l5 r_l6 r_l8 r_l10 h; exact False.elim h
  | succ n ih =>
    intro m_many m_row m_isSpent l5 l6 l8 l10 r_m_many r_m_row r_m_isSpent r_l5 r_l6 r_l8 r_l10 h
    rw [wp_X8_greed_59] at h
    refine q_aload_n g 0 0 rfl dX8_greed_59 ?_
    refine q_lload g 10 4 rfl dX8_greed_60 ?_
    refine q_callV (lev := 1) (mc := 0) (ms := 0) g 91 (c_X8_has X.l X.D X.cI X.cJ X.zt hX8 aX8_ups aX8_downs m_many aX8_row m_isSpent m_found aX8_sumMany aX8_sumShares aX8_sumSet aX8_taken aX8_restUp aX8_restDown m_fewest m_wishes aX8_wished aX8_far aX8_queue m_divided aX8_divisors aX8_least m_pairOne m_pairTwo m_sumUp m_sumDown m_row l10 _ r_m_many r_m_row r_l10 h) (wr := []) [0, 1] [] rfl rfl rfl (by decide) (by decide) (by decide) (ci := 7) rfl rfl rfl wM_X8_91 wI_X8_has wS_X8_has wZ_X8 wC_X8_has 1 rfl (by decide +kernel) (by rw [hR]; exact ⟨by show 1 + 1 ≤ 2; omega, by show 8 + (5 + 11) + 100 * 1 ≤ 100 * 2; omega⟩) (by rw [hR]; exact ⟨Nat.le_refl _, Nat.le_refl _⟩) (Nat.le_of_ble_eq_true rfl) rfl dX8_greed_62 (fun rv w1 hq => ?_)
    obtain ⟨x62, rfl, rfl, rx62, h⟩ := hq
    show Wat X 0 0 65 [(0, .ref hX8), (5, .int (i32 l5)), (6, .long (i64 l6)), (8, .long (i64 l8)), (10, .long (i64 l10))] [.int (i32 x62)] [(hX8, .inr (7, [.ref aX8_ups, .ref aX8_downs, .int (i32 m_many), .ref aX8_row, .int (i32 m_isSpent), .int (i32 m_found), .ref aX8_sumMany, .ref aX8_sumShares, .ref aX8_sumSet, .ref aX8_taken, .ref aX8_restUp, .ref aX8_restDown, .int (i32 m_fewest), .int (i32 m_wishes), .ref aX8_wished, .ref aX8_far, .ref aX8_queue, .int (i32 m_divided), .ref aX8_divisors, .ref aX8_least, .long (i64 m_pairOne), .long (i64 m_pairTwo), .long (i64 m_sumUp), .long (i64 m_sumDown)])), (aX8_row, aL X.cJ 17 m_row)]
    refine q_if_eq g (14) 79 rx62 (by decide) dX8_greed_65 (fun b65 => ?_) (fun b65 => ?_)
    · replace h := h.1 b65
      refine q_aload_n g 0 0 rfl dX8_greed_79 ?_
      refine q_lload g 10 4 rfl dX8_greed_80 ?_
      refine q_callV (lev := 1) (mc := 0) (ms := 0) g 95 (c_X8_put X.l X.D X.cI X.cJ X.zt hX8 aX8_ups aX8_downs m_many aX8_row m_isSpent m_found aX8_sumMany aX8_sumShares aX8_sumSet aX8_taken aX8_restUp aX8_restDown m_fewest m_wishes aX8_wished aX8_far aX8_queue m_divided aX8_divisors aX8_least m_pairOne m_pairTwo m_sumUp m_sumDown m_row l10 _ r_m_many r_m_row r_m_isSpent r_l10 h) (wr := []) [0, 1] [] rfl rfl rfl (by decide) (by decide) (by decide) (ci := 7) rfl rfl rfl wM_X8_95 wI_X8_put wS_X8_put wZ_X8 wC_X8_put 1 rfl (by decide +kernel) (by rw [hR]; exact ⟨by show 1 + 1 ≤ 2; omega, by show 8 + (3 + 11) + 100 * 1 ≤ 100 * 2; omega⟩) (by rw [hR]; exact ⟨Nat.le_refl _, Nat.le_refl _⟩) (Nat.le_of_ble_eq_true rfl) rfl dX8_greed_82 (fun rv w1 hq => ?_)
      obtain ⟨m_many_82, m_row_82, m_isSpent_82, rfl, rfl, rm_many_82, rm_row_82, rm_isSpent_82, h⟩ := hq
      show Wat X 0 0 85 [(0, .ref hX8), (5, .int (i32 l5)), (6, .long (i64 l6)), (8, .long (i64 l8)), (10, .long (i64 l10))] [] [(hX8, .inr (7, [.ref aX8_ups, .ref aX8_downs, .int (i32 m_many_82), .ref aX8_row, .int (i32 m_isSpent_82), .int (i32 m_found), .ref aX8_sumMany, .ref aX8_sumShares, .ref aX8_sumSet, .ref aX8_taken, .ref aX8_restUp, .ref aX8_restDown, .int (i32 m_fewest), .int (i32 m_wishes), .ref aX8_wished, .ref aX8_far, .ref aX8_queue, .int (i32 m_divided), .ref aX8_divisors, .ref aX8_least, .long (i64 m_pairOne), .long (i64 m_pairTwo), .long (i64 m_sumUp), .long (i64 m_sumDown)])), (aX8_row, aL X.cJ 17 m_row_82)]
      refine q_lload g 8 3 rfl dX8_greed_85 ?_
      refine q_lload g 10 4 rfl dX8_greed_87 ?_
      refine q_callS (lev := 1) (mc := 0) (ms := 0) (As := [.long (i64 l8), .long (i64 l10)]) g 64 (c_X8_gcd X.l X.D X.cI X.cJ X.zt l8 l10 _ r_l8 r_l10 h) (wr := [(hX8, .inr (7, [.ref aX8_ups, .ref aX8_downs, .int (i32 m_many_82), .ref aX8_row, .int (i32 m_isSpent_82), .int (i32 m_found), .ref aX8_sumMany, .ref aX8_sumShares, .ref aX8_sumSet, .ref aX8_taken, .ref aX8_restUp, .ref aX8_restDown, .int (i32 m_fewest), .int (i32 m_wishes), .ref aX8_wished, .ref aX8_far, .ref aX8_queue, .int (i32 m_divided), .ref aX8_divisors, .ref aX8_least, .long (i64 m_pairOne), .long (i64 m_pairTwo), .long (i64 m_sumUp), .long (i64 m_sumDown)])), (aX8_row, aL X.cJ 17 m_row_82)]) [] [0, 1] rfl rfl rfl (by decide) (by decide) (by decide) wM_X8_64 wT_X8_gcd wZ_X8 wC_X8_gcd 2 rfl (by decide +kernel) (by rw [hR]; exact ⟨by show 1 + 1 ≤ 2; omega, by show 8 + (10 + 11) + 100 * 1 ≤ 100 * 2; omega⟩) (by rw [hR]; exact ⟨Nat.le_refl _, Nat.le_refl _⟩) (Nat.le_of_ble_eq_true rfl) rfl dX8_greed_89 (fun rv w1 hq => ?_)
      obtain ⟨x89, rfl, rfl, rx89, h⟩ := hq
      show Wat X 0 0 92 [(0, .ref hX8), (5, .int (i32 l5)), (6, .long (i64 l6)), (8, .long (i64 l8)), (10, .long (i64 l10))] [.long (i64 x89)] [(hX8, .inr (7, [.ref aX8_ups, .ref aX8_downs, .int (i32 m_many_82), .ref aX8_row, .int (i32 m_isSpent_82), .int (i32 m_found), .ref aX8_sumMany, .ref aX8_sumShares, .ref aX8_sumSet, .ref aX8_taken, .ref aX8_restUp, .ref aX8_restDown, .int (i32 m_fewest), .int (i32 m_wishes), .ref aX8_wished, .ref aX8_far, .ref aX8_queue, .int (i32 m_divided), .ref aX8_divisors, .ref aX8_least, .long (i64 m_pairOne), .long (i64 m_pairTwo), .long (i64 m_sumUp), .long (i64 m_sumDown)])), (aX8_row, aL X.cJ 17 m_row_82)]
      refine q_lstore (lv' := [(12, .long (i64 x89)), (0, .ref hX8), (5, .int (i32 l5)), (6, .long (i64 l6)), (8, .long (i64 l8)), (10, .long (i64 l10))]) g 12   (by decide) rfl dX8_greed_92 ?_
      refine q_aload_n g 0 1 rfl dX8_greed_94 ?_
      refine q_aload_n g 0 1 rfl dX8_greed_95 ?_
      refine q_get (C := RX8) (T := TX8) (N := 24) g 80 inX8 0 4 rfl rfl (by decide) wF_X8_80 rfl dX8_greed_96 ?_
      refine q_if_ne g (18) 117 rm_isSpent_82 (by decide) dX8_greed_99 (fun b99 => ?_) (fun b99 => ?_)
      · replace h := h.1 b99
        refine q_lv (lv' := [(0, .ref hX8), (5, .int (i32 l5)), (6, .long (i64 l6)), (8, .long (i64 l8)), (10, .long (i64 l10)), (12, .long (i64 x89))]) [1, 2, 3, 4, 5, 0] rfl ?_
        exact s_X8_greed_117 g hR hX8 aX8_ups aX8_downs aX8_row m_found aX8_sumMany aX8_sumShares aX8_sumSet aX8_taken aX8_restUp aX8_restDown m_fewest m_wishes aX8_wished aX8_far aX8_queue m_divided aX8_divisors aX8_least m_pairOne m_pairTwo m_sumUp m_sumDown Q hF K_6 hK_6 m_many_82 m_row_82 m_isSpent_82 l5 l6 l8 l10 x89 rm_many_82 rm_row_82 rm_isSpent_82 r_l5 r_l6 r_l8 r_l10 rx89 h
      replace h := h.2 b99
      refine q_lload g 8 4 rfl dX8_greed_102 ?_
      refine q_lload g 12 0 rfl dX8_greed_104 ?_
      obtain ⟨c106, h⟩ := h
      refine q_ldiv g r_l8 rx89 (ne_of_pos c106) dX8_greed_106 ?_
      refine q_ldc2 (w := 1000000000000000) g 99 (1000000000000000) (by decide +kernel) wL_X8_99 dX8_greed_107 ?_
      refine q_lload g 10 5 rfl dX8_greed_110 ?_
      obtain ⟨c112, h⟩ := h
      refine q_ldiv g (r64_lit _ (by decide)) r_l10 (ne_of_pos c112) dX8_greed_112 ?_
      refine q_lcmp_le g (7) 121 (r64_tdiv r_l8 c106) (r64_tdiv (r64_lit _ (by decide)) c112) (by decide) dX8_greed_113 dX8_greed_114 (fun b113 => ?_) (fun b113 => ?_)
      · replace h := h.1 b113
        refine q_iconst g (0) dX8_greed_121 ?_
        refine q_lv (lv' := [(0, .ref hX8), (5, .int (i32 l5)), (6, .long (i64 l6)), (8, .long (i64 l8)), (10, .long (i64 l10)), (12, .long (i64 x89))]) [1, 2, 3, 4, 5, 0] rfl ?_
        exact s_X8_greed_122 g hR hX8 aX8_ups aX8_downs aX8_row m_found aX8_sumMany aX8_sumShares aX8_sumSet aX8_taken aX8_restUp aX8_restDown m_fewest m_wishes aX8_wished aX8_far aX8_queue m_divided aX8_divisors aX8_least m_pairOne m_pairTwo m_sumUp m_sumDown Q hF K_6 hK_6 m_many_82 m_row_82 m_isSpent_82 l5 l6 l8 l10 x89 0 rm_many_82 rm_row_82 rm_isSpent_82 r_l5 r_l6 r_l8 r_l10 rx89 (r32_lit _ (by decide)) h
      replace h := h.2 b113
      refine q_lv (lv' := [(0, .ref hX8), (5, .int (i32 l5)), (6, .long (i64 l6)), (8, .long (i64 l8)), (10, .long (i64 l10)), (12, .long (i64 x89))]) [1, 2, 3, 4, 5, 0] rfl ?_
      exact s_X8_greed_117 g hR hX8 aX8_ups aX8_downs aX8_row m_found aX8_sumMany aX8_sumShares aX8_sumSet aX8_taken aX8_restUp aX8_restDown m_fewest m_wishes aX8_wished aX8_far aX8_queue m_divided aX8_divisors aX8_least m_pairOne m_pairTwo m_sumUp m_sumDown Q hF K_6 hK_6 m_many_82 m_row_82 m_isSpent_82 l5 l6 l8 l10 x89 rm_many_82 rm_row_82 rm_isSpent_82 r_l5 r_l6 r_l8 r_l10 rx89 h
    replace h := h.2 b65
    refine q_lload g 10 4 rfl dX8_greed_68 ?_
    refine q_iload g 5 1 rfl dX8_greed_70 ?_
    refine q_i2l g r_l5 dX8_greed_72 ?_
    obtain ⟨c73, h⟩ := h
    refine q_ladd g dX8_greed_73 ?_
    refine q_topl c73 (fun x74 ex74 rx74 => ?_)
    replace h := h x74 ex74
    refine q_lstore (lv' := [(10, .long (i64 x74)), (0, .ref hX8), (5, .int (i32 l5)), (6, .long (i64 l6)), (8, .long (i64 l8))]) g 10   (by decide) rfl dX8_greed_74 ?_
    refine q_goto g (-17) 59 (by decide) dX8_greed_76 ?_
    refine q_lv (lv' := [(0, .ref hX8), (5, .int (i32 l5)), (6, .long (i64 l6)), (8, .long (i64 l8)), (10, .long (i64 x74))]) [1, 2, 3, 4, 0] rfl ?_
    exact ih m_many m_row m_isSpent l5 l6 l8 x74 r_m_many r_m_row r_m_isSpent r_l5 r_l6 r_l8 rx74 h
def wp_X8_greed_56 (Q : Int → (Int → Int) → Int → Prop) (K_6 : Int → (Int → Int) → Int → Int → Int → Int → Prop) (m_many : Int) (m_row : Int → Int) (m_isSpent : Int) (l5 : Int) (l6 : Int) (l8 : Int) (k0 : Int) (k1 : Int) : Prop := (r64 (k0 + k1) ∧ ∀ x57 : Int, x57 = (k0 + k1) → (∃ n0 : Nat, wp_X8_greed_59 Q K_6 n0 m_many m_row m_isSpent l5 l6 l8 x57))
set_option maxHeartbeats 4000000 in
set_option maxRecDepth 100000 in
theorem s_X8_greed_56 {X : Cx} (g : Gd X cX8_greed RX8 none 16) (hR : X.R = rmL 2 0 0) (hX8 : Nat) (aX8_ups : Nat) (aX8_downs : Nat) (aX8_row : Nat) (m_found : Int) (aX8_sumMany : Nat) (aX8_sumShares : Nat) (aX8_sumSet : Nat) (aX8_taken : Nat) (aX8_restUp : Nat) (aX8_restDown : Nat) (m_fewest : Int) (m_wishes : Int) (aX8_wished : Nat) (aX8_far : Nat) (aX8_queue : Nat) (m_divided : Int) (aX8_divisors : Nat) (aX8_least : Nat) (m_pairOne : Int) (m_pairTwo : Int) (m_sumUp : Int) (m_sumDown : Int) (Q : Int → (Int → Int) → Int → Prop) (hF : FQ X 0 0 (po_X8_greed X.cI X.cJ hX8 aX8_ups aX8_downs aX8_row m_found aX8_sumMany aX8_sumShares aX8_sumSet aX8_taken aX8_restUp aX8_restDown m_fewest m_wishes aX8_wished aX8_far aX8_queue m_divided aX8_divisors aX8_least m_pairOne m_pairTwo m_sumUp m_sumDown Q)) (K_6 : Int → (Int → Int) → Int → Int → Int → Int → Prop) (hK_6 : ∀ (m_many : Int) (m_row : Int → Int) (m_isSpent : Int) (l5 : Int) (l6 : Int) (l8 : Int), r32 m_many → rr64 m_row → r32 m_isSpent → r32 l5 → r64 l6 → r64 l8 → K_6 m_many m_row m_isSpent l5 l6 l8 → Wat X 0 0 6 [(0, .ref hX8), (5, .int (i32 l5)), (6, .long (i64 l6)), (8, .long (i64 l8))] [] [(hX8, .inr (7, [.ref aX8_ups, .ref aX8_downs, .int (i32 m_many), .ref aX8_row, .int (i32 m_isSpent), .int (i32 m_found), .ref aX8_sumMany, .ref aX8_sumShares, .ref aX8_sumSet, .ref aX8_taken, .ref aX8_restUp, .ref aX8_restDown, .int (i32 m_fewest), .int (i32 m_wishes), .ref aX8_wished, .ref aX8_far, .ref aX8_queue, .int (i32 m_divided), .ref aX8_divisors, .ref aX8_least, .long (i64 m_pairOne), .long (i64 m_pairTwo), .long (i64 m_sumUp), .long (i64 m_sumDown)])), (aX8_row, aL X.cJ 17 m_row)]) : ∀ (m_many : Int) (m_row : Int → Int) (m_isSpent : Int) (l5 : Int) (l6 : Int) (l8 : Int) (k0 : Int) (k1 : Int), r32 m_many → rr64 m_row → r32 m_isSpent → r32 l5 → r64 l6 → r64 l8 → r64 k0 → r64 k1 → wp_X8_greed_56 Q K_6 m_many m_row m_isSpent l5 l6 l8 k0 k1 → Wat X 0 0 56 [(0, .ref hX8), (5, .int (i32 l5)), (6, .long (i64 l6)), (8, .long (i64 l8))] [.long (i64 k1), .long (i64 k0)] [(hX8, .inr (7, [.ref aX8_ups, .ref aX8_downs, .int (i32 m_many), .ref aX8_row, .int (i32 m_isSpent), .int (i32 m_found), .ref aX8_sumMany, .ref aX8_sumShares, .ref aX8_sumSet, .ref aX8_taken, .ref aX8_restUp, .ref aX8_restDown, .int (i32 m_fewest), .int (i32 m_wishes), .ref aX8_wished, .ref aX8_far, .ref aX8_queue, .int (i32 m_divided), .ref aX8_divisors, .ref aX8_least, .long (i64 m_pairOne), .long (i64 m_pairTwo), .long (i64 m_sumUp), .long (i64 m_sumDown)])), (aX8_row, aL X.cJ 17 m_row)] := by
  intro m_many m_row m_isSpent l5 l6 l8 k0 k1 r_m_many r_m_row r_m_isSpent r_l5 r_l6 r_l8 r_k0 r_k1 h
  rw [wp_X8_greed_56] at h
  obtain ⟨c56, h⟩ := h
  refine q_ladd g dX8_greed_56 ?_
  refine q_topl c56 (fun x57 ex57 rx57 => ?_)
  replace h := h x57 ex57
  refine q_lstore (lv' := [(10, .long (i64 x57)), (0, .ref hX8), (5, .int (i32 l5)), (6, .long (i64 l6)), (8, .long (i64 l8))]) g 10   (by decide) rfl dX8_greed_57 ?_
  refine q_lv (lv' := [(0, .ref hX8), (5, .int (i32 l5)), (6, .long (i64 l6)), (8, .long (i64 l8)), (10, .long (i64 x57))]) [1, 2, 3, 4, 0] rfl ?_
  obtain ⟨n0, h⟩ := h
  exact s_X8_greed_59 g hR hX8 aX8_ups aX8_downs aX8_row m_found aX8_sumMany aX8_sumShares aX8_sumSet aX8_taken aX8_restUp aX8_restDown m_fewest m_wishes aX8_wished aX8_far aX8_queue m_divided aX8_divisors aX8_least m_pairOne m_pairTwo m_sumUp m_sumDown Q hF K_6 hK_6 n0 m_many m_row m_isSpent l5 l6 l8 x57 r_m_many r_m_row r_m_isSpent r_l5 r_l6 r_l8 rx57 h
def wp_X8_greed_55 (Q : Int → (Int → Int) → Int → Prop) (K_6 : Int → (Int → Int) → Int → Int → Int → Int → Prop) (m_many : Int) (m_row : Int → Int) (m_isSpent : Int) (l5 : Int) (l6 : Int) (l8 : Int) (k0 : Int) : Prop := wp_X8_greed_56 Q K_6 m_many m_row m_isSpent l5 l6 l8 k0 0
set_option maxHeartbeats 4000000 in
set_option maxRecDepth 100000 in
theorem s_X8_greed_55 {X : Cx} (g : Gd X cX8_greed RX8 none 16) (hR : X.R = rmL 2 0 0) (hX8 : Nat) (aX8_ups : Nat) (aX8_downs : Nat) (aX8_row : Nat) (m_found : Int) (aX8_sumMany : Nat) (aX8_sumShares : Nat) (aX8_sumSet : Nat) (aX8_taken : Nat) (aX8_restUp : Nat) (aX8_restDown : Nat) (m_fewest : Int) (m_wishes : Int) (aX8_wished : Nat) (aX8_far : Nat) (aX8_queue : Nat) (m_divided : Int) (aX8_divisors : Nat) (aX8_least : Nat) (m_pairOne : Int) (m_pairTwo : Int) (m_sumUp : Int) (m_sumDown : Int) (Q : Int → (Int → Int) → Int → Prop) (hF : FQ X 0 0 (po_X8_greed X.cI X.cJ hX8 aX8_ups aX8_downs aX8_row m_found aX8_sumMany aX8_sumShares aX8_sumSet aX8_taken aX8_restUp aX8_restDown m_fewest m_wishes aX8_wished aX8_far aX8_queue m_divided aX8_divisors aX8_least m_pairOne m_pairTwo m_sumUp m_sumDown Q)) (K_6 : Int → (Int → Int) → Int → Int → Int → Int → Prop) (hK_6 : ∀ (m_many : Int) (m_row : Int → Int) (m_isSpent : Int) (l5 : Int) (l6 : Int) (l8 : Int), r32 m_many → rr64 m_row → r32 m_isSpent → r32 l5 → r64 l6 → r64 l8 → K_6 m_many m_row m_isSpent l5 l6 l8 → Wat X 0 0 6 [(0, .ref hX8), (5, .int (i32 l5)), (6, .long (i64 l6)), (8, .long (i64 l8))] [] [(hX8, .inr (7, [.ref aX8_ups, .ref aX8_downs, .int (i32 m_many), .ref aX8_row, .int (i32 m_isSpent), .int (i32 m_found), .ref aX8_sumMany, .ref aX8_sumShares, .ref aX8_sumSet, .ref aX8_taken, .ref aX8_restUp, .ref aX8_restDown, .int (i32 m_fewest), .int (i32 m_wishes), .ref aX8_wished, .ref aX8_far, .ref aX8_queue, .int (i32 m_divided), .ref aX8_divisors, .ref aX8_least, .long (i64 m_pairOne), .long (i64 m_pairTwo), .long (i64 m_sumUp), .long (i64 m_sumDown)])), (aX8_row, aL X.cJ 17 m_row)]) : ∀ (m_many : Int) (m_row : Int → Int) (m_isSpent : Int) (l5 : Int) (l6 : Int) (l8 : Int) (k0 : Int), r32 m_many → rr64 m_row → r32 m_isSpent → r32 l5 → r64 l6 → r64 l8 → r64 k0 → wp_X8_greed_55 Q K_6 m_many m_row m_isSpent l5 l6 l8 k0 → Wat X 0 0 55 [(0, .ref hX8), (5, .int (i32 l5)), (6, .long (i64 l6)), (8, .long (i64 l8))] [.long (i64 k0)] [(hX8, .inr (7, [.ref aX8_ups, .ref aX8_downs, .int (i32 m_many), .ref aX8_row, .int (i32 m_isSpent), .int (i32 m_found), .ref aX8_sumMany, .ref aX8_sumShares, .ref aX8_sumSet, .ref aX8_taken, .ref aX8_restUp, .ref aX8_restDown, .int (i32 m_fewest), .int (i32 m_wishes), .ref aX8_wished, .ref aX8_far, .ref aX8_queue, .int (i32 m_divided), .ref aX8_divisors, .ref aX8_least, .long (i64 m_pairOne), .long (i64 m_pairTwo), .long (i64 m_sumUp), .long (i64 m_sumDown)])), (aX8_row, aL X.cJ 17 m_row)] := by
  intro m_many m_row m_isSpent l5 l6 l8 k0 r_m_many r_m_row r_m_isSpent r_l5 r_l6 r_l8 r_k0 h
  rw [wp_X8_greed_55] at h
  refine q_lconst g 0 0 rfl dX8_greed_55 ?_
  exact s_X8_greed_56 g hR hX8 aX8_ups aX8_downs aX8_row m_found aX8_sumMany aX8_sumShares aX8_sumSet aX8_taken aX8_restUp aX8_restDown m_fewest m_wishes aX8_wished aX8_far aX8_queue m_divided aX8_divisors aX8_least m_pairOne m_pairTwo m_sumUp m_sumDown Q hF K_6 hK_6 m_many m_row m_isSpent l5 l6 l8 k0 0 r_m_many r_m_row r_m_isSpent r_l5 r_l6 r_l8 r_k0 (r64_lit _ (by decide)) h
def wp_X8_greed_188 (Q : Int → (Int → Int) → Int → Prop) (m_many : Int) (m_row : Int → Int) (m_isSpent : Int) : Prop := Q m_many m_row m_isSpent
set_option maxHeartbeats 4000000 in
set_option maxRecDepth 100000 in
theorem s_X8_greed_188 {X : Cx} (g : Gd X cX8_greed RX8 none 16) (hR : X.R = rmL 2 0 0) (hX8 : Nat) (aX8_ups : Nat) (aX8_downs : Nat) (aX8_row : Nat) (m_found : Int) (aX8_sumMany : Nat) (aX8_sumShares : Nat) (aX8_sumSet : Nat) (aX8_taken : Nat) (aX8_restUp : Nat) (aX8_restDown : Nat) (m_fewest : Int) (m_wishes : Int) (aX8_wished : Nat) (aX8_far : Nat) (aX8_queue : Nat) (m_divided : Int) (aX8_divisors : Nat) (aX8_least : Nat) (m_pairOne : Int) (m_pairTwo : Int) (m_sumUp : Int) (m_sumDown : Int) (Q : Int → (Int → Int) → Int → Prop) (hF : FQ X 0 0 (po_X8_greed X.cI X.cJ hX8 aX8_ups aX8_downs aX8_row m_found aX8_sumMany aX8_sumShares aX8_sumSet aX8_taken aX8_restUp aX8_restDown m_fewest m_wishes aX8_wished aX8_far aX8_queue m_divided aX8_divisors aX8_least m_pairOne m_pairTwo m_sumUp m_sumDown Q)) : ∀ (m_many : Int) (m_row : Int → Int) (m_isSpent : Int), r32 m_many → rr64 m_row → r32 m_isSpent → wp_X8_greed_188 Q m_many m_row m_isSpent → Wat X 0 0 188 [] [] [(hX8, .inr (7, [.ref aX8_ups, .ref aX8_downs, .int (i32 m_many), .ref aX8_row, .int (i32 m_isSpent), .int (i32 m_found), .ref aX8_sumMany, .ref aX8_sumShares, .ref aX8_sumSet, .ref aX8_taken, .ref aX8_restUp, .ref aX8_restDown, .int (i32 m_fewest), .int (i32 m_wishes), .ref aX8_wished, .ref aX8_far, .ref aX8_queue, .int (i32 m_divided), .ref aX8_divisors, .ref aX8_least, .long (i64 m_pairOne), .long (i64 m_pairTwo), .long (i64 m_sumUp), .long (i64 m_sumDown)])), (aX8_row, aL X.cJ 17 m_row)] := by
  intro m_many m_row m_isSpent r_m_many r_m_row r_m_isSpent h
  rw [wp_X8_greed_188] at h
  exact q_vret g hF ⟨m_many, m_row, m_isSpent, rfl, rfl, r_m_many, r_m_row, r_m_isSpent, h⟩ dX8_greed_188
def wp_X8_greed_6 (Q : Int → (Int → Int) → Int → Prop) : Nat → Int → (Int → Int) → Int → Int → Int → Int → Prop
  | 0, _, _, _, _, _, _ => False
  | n + 1, m_many, m_row, m_isSpent, l5, l6, l8 => ((l6 ≤ 0 → wp_X8_greed_188 Q m_many m_row m_isSpent) ∧
  (¬ (l6 ≤ 0) → ((¬ m_isSpent = 0 → wp_X8_greed_188 Q m_many m_row m_isSpent) ∧
  (m_isSpent = 0 → (r64 (l8 + l6) ∧ r64 ((l8 + l6) - 1) ∧ 0 < l6 ∧ ∀ x30 : Int, x30 = (Int.tdiv ((l8 + l6) - 1) l6) → ((¬ l5 = 2 → wp_X8_greed_55 Q (wp_X8_greed_6 Q n) m_many m_row m_isSpent l5 l6 l8 x30) ∧
  (l5 = 2 → ((¬ (x30.tmod 2) = 0 → wp_X8_greed_55 Q (wp_X8_greed_6 Q n) m_many m_row m_isSpent l5 l6 l8 x30) ∧
  ((x30.tmod 2) = 0 → wp_X8_greed_56 Q (wp_X8_greed_6 Q n) m_many m_row m_isSpent l5 l6 l8 x30 1)))))))))
set_option maxHeartbeats 4000000 in
set_option maxRecDepth 100000 in
theorem s_X8_greed_6 {X : Cx} (g : Gd X cX8_greed RX8 none 16) (hR : X.R = rmL 2 0 0) (hX8 : Nat) (aX8_ups : Nat) (aX8_downs : Nat) (aX8_row : Nat) (m_found : Int) (aX8_sumMany : Nat) (aX8_sumShares : Nat) (aX8_sumSet : Nat) (aX8_taken : Nat) (aX8_restUp : Nat) (aX8_restDown : Nat) (m_fewest : Int) (m_wishes : Int) (aX8_wished : Nat) (aX8_far : Nat) (aX8_queue : Nat) (m_divided : Int) (aX8_divisors : Nat) (aX8_least : Nat) (m_pairOne : Int) (m_pairTwo : Int) (m_sumUp : Int) (m_sumDown : Int) (Q : Int → (Int → Int) → Int → Prop) (hF : FQ X 0 0 (po_X8_greed X.cI X.cJ hX8 aX8_ups aX8_downs aX8_row m_found aX8_sumMany aX8_sumShares aX8_sumSet aX8_taken aX8_restUp aX8_restDown m_fewest m_wishes aX8_wished aX8_far aX8_queue m_divided aX8_divisors aX8_least m_pairOne m_pairTwo m_sumUp m_sumDown Q)) : ∀ (n : Nat) (m_many : Int) (m_row : Int → Int) (m_isSpent : Int) (l5 : Int) (l6 : Int) (l8 : Int), r32 m_many → rr64 m_row → r32 m_isSpent → r32 l5 → r64 l6 → r64 l8 → wp_X8_greed_6 Q n m_many m_row m_isSpent l5 l6 l8 → Wat X 0 0 6 [(0, .ref hX8), (5, .int (i32 l5)), (6, .long (i64 l6)), (8, .long (i64 l8))] [] [(hX8, .inr (7, [.ref aX8_ups, .ref aX8_downs, .int (i32 m_many), .ref aX8_row, .int (i32 m_isSpent), .int (i32 m_found), .ref aX8_sumMany, .ref aX8_sumShares, .ref aX8_sumSet, .ref aX8_taken, .ref aX8_restUp, .ref aX8_restDown, .int (i32 m_fewest), .int (i32 m_wishes), .ref aX8_wished, .ref aX8_far, .ref aX8_queue, .int (i32 m_divided), .ref aX8_divisors, .ref aX8_least, .long (i64 m_pairOne), .long (i64 m_pairTwo), .long (i64 m_sumUp), .long (i64 m_sumDown)])), (aX8_row, aL X.cJ 17 m_row)] := by
  intro n
  induction n with
  | zero => intro m_many m_row m_isSpent l5 l6 l8 r_m_many r_m_row r_m_isSpent r_l5 r_l6 r_l8 h; exact False.elim h
  | succ n ih =>
    intro m_many m_row m_isSpent l5 l6 l8 r_m_many r_m_row r_m_isSpent r_l5 r_l6 r_l8 h
    rw [wp_X8_greed_6] at h
    refine q_lload g 6 2 rfl dX8_greed_6 ?_
    refine q_lconst g 0 0 rfl dX8_greed_8 ?_
    refine q_lcmp_le g (178) 188 r_l6 (r64_lit _ (by decide)) (by decide) dX8_greed_9 dX8_greed_10 (fun b9 => ?_) (fun b9 => ?_)
    · replace h := h.1 b9
      refine q_lv (lv' := []) [] rfl ?_
      exact s_X8_greed_188 g hR hX8 aX8_ups aX8_downs aX8_row m_found aX8_sumMany aX8_sumShares aX8_sumSet aX8_taken aX8_restUp aX8_restDown m_fewest m_wishes aX8_wished aX8_far aX8_queue m_divided aX8_divisors aX8_least m_pairOne m_pairTwo m_sumUp m_sumDown Q hF m_many m_row m_isSpent r_m_many r_m_row r_m_isSpent h
    replace h := h.2 b9
    refine q_aload_n g 0 0 rfl dX8_greed_13 ?_
    refine q_get (C := RX8) (T := TX8) (N := 24) g 80 inX8 0 4 rfl rfl (by decide) wF_X8_80 rfl dX8_greed_14 ?_
    refine q_if_ne g (171) 188 r_m_isSpent (by decide) dX8_greed_17 (fun b17 => ?_) (fun b17 => ?_)
    · replace h := h.1 b17
      refine q_lv (lv' := []) [] rfl ?_
      exact s_X8_greed_188 g hR hX8 aX8_ups aX8_downs aX8_row m_found aX8_sumMany aX8_sumShares aX8_sumSet aX8_taken aX8_restUp aX8_restDown m_fewest m_wishes aX8_wished aX8_far aX8_queue m_divided aX8_divisors aX8_least m_pairOne m_pairTwo m_sumUp m_sumDown Q hF m_many m_row m_isSpent r_m_many r_m_row r_m_isSpent h
    replace h := h.2 b17
    refine q_lload g 8 3 rfl dX8_greed_20 ?_
    refine q_lload g 6 2 rfl dX8_greed_22 ?_
    obtain ⟨c24, h⟩ := h
    refine q_ladd g dX8_greed_24 ?_
    refine q_lconst g 1 1 rfl dX8_greed_25 ?_
    obtain ⟨c26, h⟩ := h
    refine q_lsub g dX8_greed_26 ?_
    refine q_lload g 6 2 rfl dX8_greed_27 ?_
    obtain ⟨c29, h⟩ := h
    refine q_ldiv g c26 r_l6 (ne_of_pos c29) dX8_greed_29 ?_
    refine q_topl (r64_tdiv c26 c29) (fun x30 ex30 rx30 => ?_)
    replace h := h x30 ex30
    refine q_lstore (lv' := [(10, .long (i64 x30)), (0, .ref hX8), (5, .int (i32 l5)), (6, .long (i64 l6)), (8, .long (i64 l8))]) g 10   (by decide) rfl dX8_greed_30 ?_
    refine q_lload g 10 0 rfl dX8_greed_32 ?_
    refine q_iload g 5 2 rfl dX8_greed_34 ?_
    refine q_iconst g (2) dX8_greed_36 ?_
    refine q_icmp_ne g (18) 55 r_l5 (r32_lit _ (by decide)) (by decide) dX8_greed_37 (fun b37 => ?_) (fun b37 => ?_)
    · replace h := h.1 b37
      refine q_lv (lv' := [(0, .ref hX8), (5, .int (i32 l5)), (6, .long (i64 l6)), (8, .long (i64 l8))]) [1, 2, 3, 4] rfl ?_
      exact s_X8_greed_55 g hR hX8 aX8_ups aX8_downs aX8_row m_found aX8_sumMany aX8_sumShares aX8_sumSet aX8_taken aX8_restUp aX8_restDown m_fewest m_wishes aX8_wished aX8_far aX8_queue m_divided aX8_divisors aX8_least m_pairOne m_pairTwo m_sumUp m_sumDown Q hF (wp_X8_greed_6 Q n) (fun v0 v1 v2 v3 v4 v5 w0 w1 w2 w3 w4 w5 hh => ih v0 v1 v2 v3 v4 v5 w0 w1 w2 w3 w4 w5 hh) m_many m_row m_isSpent l5 l6 l8 x30 r_m_many r_m_row r_m_isSpent r_l5 r_l6 r_l8 rx30 h
    replace h := h.2 b37
    refine q_lload g 10 0 rfl dX8_greed_40 ?_
    refine q_ldc2 (w := 2) g 89 (2) (by decide +kernel) wL_X8_89 dX8_greed_42 ?_
    refine q_lrem g rx30 (r64_lit _ (by decide)) (ne_of_pos (by decide)) dX8_greed_45 ?_
    refine q_lconst g 0 0 rfl dX8_greed_46 ?_
    refine q_lcmp_ne g (7) 55 (r64_tmod rx30 (r64_lit _ (by decide)) (ne_of_pos (by decide))) (r64_lit _ (by decide)) (by decide) dX8_greed_47 dX8_greed_48 (fun b47 => ?_) (fun b47 => ?_)
    · replace h := h.1 b47
      refine q_lv (lv' := [(0, .ref hX8), (5, .int (i32 l5)), (6, .long (i64 l6)), (8, .long (i64 l8))]) [1, 2, 3, 4] rfl ?_
      exact s_X8_greed_55 g hR hX8 aX8_ups aX8_downs aX8_row m_found aX8_sumMany aX8_sumShares aX8_sumSet aX8_taken aX8_restUp aX8_restDown m_fewest m_wishes aX8_wished aX8_far aX8_queue m_divided aX8_divisors aX8_least m_pairOne m_pairTwo m_sumUp m_sumDown Q hF (wp_X8_greed_6 Q n) (fun v0 v1 v2 v3 v4 v5 w0 w1 w2 w3 w4 w5 hh => ih v0 v1 v2 v3 v4 v5 w0 w1 w2 w3 w4 w5 hh) m_many m_row m_isSpent l5 l6 l8 x30 r_m_many r_m_row r_m_isSpent r_l5 r_l6 r_l8 rx30 h
    replace h := h.2 b47
    refine q_lconst g 1 1 rfl dX8_greed_51 ?_
    refine q_goto g (4) 56 (by decide) dX8_greed_52 ?_
    refine q_lv (lv' := [(0, .ref hX8), (5, .int (i32 l5)), (6, .long (i64 l6)), (8, .long (i64 l8))]) [1, 2, 3, 4] rfl ?_
    exact s_X8_greed_56 g hR hX8 aX8_ups aX8_downs aX8_row m_found aX8_sumMany aX8_sumShares aX8_sumSet aX8_taken aX8_restUp aX8_restDown m_fewest m_wishes aX8_wished aX8_far aX8_queue m_divided aX8_divisors aX8_least m_pairOne m_pairTwo m_sumUp m_sumDown Q hF (wp_X8_greed_6 Q n) (fun v0 v1 v2 v3 v4 v5 w0 w1 w2 w3 w4 w5 hh => ih v0 v1 v2 v3 v4 v5 w0 w1 w2 w3 w4 w5 hh) m_many m_row m_isSpent l5 l6 l8 x30 1 r_m_many r_m_row r_m_isSpent r_l5 r_l6 r_l8 rx30 (r64_lit _ (by decide)) h
def wp_X8_greed (Q : Int → (Int → Int) → Int → Prop) (m_many : Int) (m_row : Int → Int) (m_isSpent : Int) (l1 : Int) (l3 : Int) (l5 : Int) : Prop := (∃ n0 : Nat, wp_X8_greed_6 Q n0 m_many m_row m_isSpent l5 l1 l3)
set_option maxHeartbeats 4000000 in
set_option maxRecDepth 100000 in
theorem c_X8_greed (l : Launch) (D : va_G) (cI cJ : ClassId) (zt : Nat) (hX8 : Nat) (aX8_ups : Nat) (aX8_downs : Nat) (m_many : Int) (aX8_row : Nat) (m_isSpent : Int) (m_found : Int) (aX8_sumMany : Nat) (aX8_sumShares : Nat) (aX8_sumSet : Nat) (aX8_taken : Nat) (aX8_restUp : Nat) (aX8_restDown : Nat) (m_fewest : Int) (m_wishes : Int) (aX8_wished : Nat) (aX8_far : Nat) (aX8_queue : Nat) (m_divided : Int) (aX8_divisors : Nat) (aX8_least : Nat) (m_pairOne : Int) (m_pairTwo : Int) (m_sumUp : Int) (m_sumDown : Int) (m_row : Int → Int) (l1 : Int) (l3 : Int) (l5 : Int) (Q : Int → (Int → Int) → Int → Prop) (r_m_many : r32 m_many) (r_m_row : rr64 m_row) (r_m_isSpent : r32 m_isSpent) (r_l1 : r64 l1) (r_l3 : r64 l3) (r_l5 : r32 l5) (h : wp_X8_greed Q m_many m_row m_isSpent l1 l3 l5) : Ct l D cI cJ zt yX8_greed cX8_greed 16 none 2 0 0 [.ref hX8, .long (i64 l1), .long (i64 l3), .int (i32 l5)] [(hX8, .inr (7, [.ref aX8_ups, .ref aX8_downs, .int (i32 m_many), .ref aX8_row, .int (i32 m_isSpent), .int (i32 m_found), .ref aX8_sumMany, .ref aX8_sumShares, .ref aX8_sumSet, .ref aX8_taken, .ref aX8_restUp, .ref aX8_restDown, .int (i32 m_fewest), .int (i32 m_wishes), .ref aX8_wished, .ref aX8_far, .ref aX8_queue, .int (i32 m_divided), .ref aX8_divisors, .ref aX8_least, .long (i64 m_pairOne), .long (i64 m_pairTwo), .long (i64 m_sumUp), .long (i64 m_sumDown)])), (aX8_row, aL cJ 17 m_row)] (po_X8_greed cI cJ hX8 aX8_ups aX8_downs aX8_row m_found aX8_sumMany aX8_sumShares aX8_sumSet aX8_taken aX8_restUp aX8_restDown m_fewest m_wishes aX8_wished aX8_far aX8_queue m_divided aX8_divisors aX8_least m_pairOne m_pairTwo m_sumUp m_sumDown Q) := by
  refine ct_of (by decide +kernel) (Nat.le_of_ble_eq_true rfl) (fun X hl hDD hcI hcJ hzt hR hF hnm g => ?_)
  subst hl; subst hDD; subst hcI; subst hcJ; subst hzt
  show Wat X 0 0 0 [(0, .ref hX8), (1, .long (i64 l1)), (3, .long (i64 l3)), (5, .int (i32 l5))] [] [(hX8, .inr (7, [.ref aX8_ups, .ref aX8_downs, .int (i32 m_many), .ref aX8_row, .int (i32 m_isSpent), .int (i32 m_found), .ref aX8_sumMany, .ref aX8_sumShares, .ref aX8_sumSet, .ref aX8_taken, .ref aX8_restUp, .ref aX8_restDown, .int (i32 m_fewest), .int (i32 m_wishes), .ref aX8_wished, .ref aX8_far, .ref aX8_queue, .int (i32 m_divided), .ref aX8_divisors, .ref aX8_least, .long (i64 m_pairOne), .long (i64 m_pairTwo), .long (i64 m_sumUp), .long (i64 m_sumDown)])), (aX8_row, aL X.cJ 17 m_row)]
  replace g : Gd X cX8_greed RX8 none 16 := g
  rw [wp_X8_greed] at h
  refine q_lload_n g 1 1 rfl dX8_greed_0 ?_
  refine q_lstore (lv' := [(6, .long (i64 l1)), (0, .ref hX8), (1, .long (i64 l1)), (3, .long (i64 l3)), (5, .int (i32 l5))]) g 6   (by decide) rfl dX8_greed_1 ?_
  refine q_lload_n g 3 3 rfl dX8_greed_3 ?_
  refine q_lstore (lv' := [(8, .long (i64 l3)), (6, .long (i64 l1)), (0, .ref hX8), (1, .long (i64 l1)), (3, .long (i64 l3)), (5, .int (i32 l5))]) g 8   (by decide) rfl dX8_greed_4 ?_
  refine q_lv (lv' := [(0, .ref hX8), (5, .int (i32 l5)), (6, .long (i64 l1)), (8, .long (i64 l3))]) [2, 5, 1, 0] rfl ?_
  obtain ⟨n0, h⟩ := h
  exact s_X8_greed_6 g hR hX8 aX8_ups aX8_downs aX8_row m_found aX8_sumMany aX8_sumShares aX8_sumSet aX8_taken aX8_restUp aX8_restDown m_fewest m_wishes aX8_wished aX8_far aX8_queue m_divided aX8_divisors aX8_least m_pairOne m_pairTwo m_sumUp m_sumDown Q hF n0 m_many m_row m_isSpent l5 l1 l3 r_m_many r_m_row r_m_isSpent r_l5 r_l1 r_l3 h
theorem dX8_sort_0 : decode cX8_sort 0 = .ok (.iconst 1, 1) := by decide +kernel
theorem dX8_sort_1 : decode cX8_sort 1 = .ok (.istore_n 1, 1) := by decide +kernel
theorem dX8_sort_2 : decode cX8_sort 2 = .ok (.iload_n 1, 1) := by decide +kernel
theorem dX8_sort_3 : decode cX8_sort 3 = .ok (.aload_n 0, 1) := by decide +kernel
theorem dX8_sort_4 : decode cX8_sort 4 = .ok (.getfield 84, 3) := by decide +kernel
theorem dX8_sort_7 : decode cX8_sort 7 = .ok (.if_icmp .ge 68, 3) := by decide +kernel
theorem dX8_sort_10 : decode cX8_sort 10 = .ok (.aload_n 0, 1) := by decide +kernel
theorem dX8_sort_11 : decode cX8_sort 11 = .ok (.getfield 16, 3) := by decide +kernel
theorem dX8_sort_14 : decode cX8_sort 14 = .ok (.iload_n 1, 1) := by decide +kernel
theorem dX8_sort_15 : decode cX8_sort 15 = .ok (.laload, 1) := by decide +kernel
theorem dX8_sort_16 : decode cX8_sort 16 = .ok (.lstore_n 2, 1) := by decide +kernel
theorem dX8_sort_17 : decode cX8_sort 17 = .ok (.iload_n 1, 1) := by decide +kernel
theorem dX8_sort_18 : decode cX8_sort 18 = .ok (.istore 4, 2) := by decide +kernel
theorem dX8_sort_20 : decode cX8_sort 20 = .ok (.iload 4, 2) := by decide +kernel
theorem dX8_sort_22 : decode cX8_sort 22 = .ok (.ifCond .le 39, 3) := by decide +kernel
theorem dX8_sort_25 : decode cX8_sort 25 = .ok (.aload_n 0, 1) := by decide +kernel
theorem dX8_sort_26 : decode cX8_sort 26 = .ok (.getfield 16, 3) := by decide +kernel
theorem dX8_sort_29 : decode cX8_sort 29 = .ok (.iload 4, 2) := by decide +kernel
theorem dX8_sort_31 : decode cX8_sort 31 = .ok (.iconst 1, 1) := by decide +kernel
theorem dX8_sort_32 : decode cX8_sort 32 = .ok (.isub, 1) := by decide +kernel
theorem dX8_sort_33 : decode cX8_sort 33 = .ok (.laload, 1) := by decide +kernel
theorem dX8_sort_34 : decode cX8_sort 34 = .ok (.lload_n 2, 1) := by decide +kernel
theorem dX8_sort_35 : decode cX8_sort 35 = .ok (.lcmp, 1) := by decide +kernel
theorem dX8_sort_36 : decode cX8_sort 36 = .ok (.ifCond .le 25, 3) := by decide +kernel
theorem dX8_sort_39 : decode cX8_sort 39 = .ok (.aload_n 0, 1) := by decide +kernel
theorem dX8_sort_40 : decode cX8_sort 40 = .ok (.getfield 16, 3) := by decide +kernel
theorem dX8_sort_43 : decode cX8_sort 43 = .ok (.iload 4, 2) := by decide +kernel
theorem dX8_sort_45 : decode cX8_sort 45 = .ok (.aload_n 0, 1) := by decide +kernel
theorem dX8_sort_46 : decode cX8_sort 46 = .ok (.getfield 16, 3) := by decide +kernel
theorem dX8_sort_49 : decode cX8_sort 49 = .ok (.iload 4, 2) := by decide +kernel
theorem dX8_sort_51 : decode cX8_sort 51 = .ok (.iconst 1, 1) := by decide +kernel
theorem dX8_sort_52 : decode cX8_sort 52 = .ok (.isub, 1) := by decide +kernel
theorem dX8_sort_53 : decode cX8_sort 53 = .ok (.laload, 1) := by decide +kernel
theorem dX8_sort_54 : decode cX8_sort 54 = .ok (.lastore, 1) := by decide +kernel
theorem dX8_sort_55 : decode cX8_sort 55 = .ok (.iinc 4 (-1), 3) := by decide +kernel
theorem dX8_sort_58 : decode cX8_sort 58 = .ok (.goto (-38), 3) := by decide +kernel
theorem dX8_sort_61 : decode cX8_sort 61 = .ok (.aload_n 0, 1) := by decide +kernel
theorem dX8_sort_62 : decode cX8_sort 62 = .ok (.getfield 16, 3) := by decide +kernel
theorem dX8_sort_65 : decode cX8_sort 65 = .ok (.iload 4, 2) := by decide +kernel
theorem dX8_sort_67 : decode cX8_sort 67 = .ok (.lload_n 2, 1) := by decide +kernel
theorem dX8_sort_68 : decode cX8_sort 68 = .ok (.lastore, 1) := by decide +kernel
theorem dX8_sort_69 : decode cX8_sort 69 = .ok (.iinc 1 1, 3) := by decide +kernel
theorem dX8_sort_72 : decode cX8_sort 72 = .ok (.goto (-70), 3) := by decide +kernel
theorem dX8_sort_75 : decode cX8_sort 75 = .ok (.return_, 1) := by decide +kernel
abbrev po_X8_sort (cI cJ : ClassId) (hX8 : Nat) (aX8_ups : Nat) (aX8_downs : Nat) (m_many : Int) (aX8_row : Nat) (m_isSpent : Int) (m_found : Int) (aX8_sumMany : Nat) (aX8_sumShares : Nat) (aX8_sumSet : Nat) (aX8_taken : Nat) (aX8_restUp : Nat) (aX8_restDown : Nat) (m_fewest : Int) (m_wishes : Int) (aX8_wished : Nat) (aX8_far : Nat) (aX8_queue : Nat) (m_divided : Int) (aX8_divisors : Nat) (aX8_least : Nat) (m_pairOne : Int) (m_pairTwo : Int) (m_sumUp : Int) (m_sumDown : Int) (Q : (Int → Int) → Prop) : Option Value → va_W → Prop := fun rv w1 => ∃ (m_row : Int → Int), rv = none ∧ w1 = [(hX8, .inr (7, [.ref aX8_ups, .ref aX8_downs, .int (i32 m_many), .ref aX8_row, .int (i32 m_isSpent), .int (i32 m_found), .ref aX8_sumMany, .ref aX8_sumShares, .ref aX8_sumSet, .ref aX8_taken, .ref aX8_restUp, .ref aX8_restDown, .int (i32 m_fewest), .int (i32 m_wishes), .ref aX8_wished, .ref aX8_far, .ref aX8_queue, .int (i32 m_divided), .ref aX8_divisors, .ref aX8_least, .long (i64 m_pairOne), .long (i64 m_pairTwo), .long (i64 m_sumUp), .long (i64 m_sumDown)])), (aX8_row, aL cJ 17 m_row)] ∧ rr64 m_row ∧ Q m_row
def wp_X8_sort_61 (Q : (Int → Int) → Prop) (m_many : Int) (K_2 : (Int → Int) → Int → Prop) (m_row : Int → Int) (l1 : Int) (l2 : Int) (l4 : Int) : Prop := (0 ≤ l4 ∧ l4 < 17 ∧ r32 (l1 + 1) ∧ K_2 (ups m_row l4 l2) (l1 + 1))
set_option maxHeartbeats 4000000 in
set_option maxRecDepth 100000 in
theorem s_X8_sort_61 {X : Cx} (g : Gd X cX8_sort RX8 none 5) (hR : X.R = rmL 1 0 0) (hX8 : Nat) (aX8_ups : Nat) (aX8_downs : Nat) (aX8_row : Nat) (m_isSpent : Int) (m_found : Int) (aX8_sumMany : Nat) (aX8_sumShares : Nat) (aX8_sumSet : Nat) (aX8_taken : Nat) (aX8_restUp : Nat) (aX8_restDown : Nat) (m_fewest : Int) (m_wishes : Int) (aX8_wished : Nat) (aX8_far : Nat) (aX8_queue : Nat) (m_divided : Int) (aX8_divisors : Nat) (aX8_least : Nat) (m_pairOne : Int) (m_pairTwo : Int) (m_sumUp : Int) (m_sumDown : Int) (m_many : Int) (r_m_many : r32 m_many) (Q : (Int → Int) → Prop) (hF : FQ X 0 0 (po_X8_sort X.cI X.cJ hX8 aX8_ups aX8_downs m_many aX8_row m_isSpent m_found aX8_sumMany aX8_sumShares aX8_sumSet aX8_taken aX8_restUp aX8_restDown m_fewest m_wishes aX8_wished aX8_far aX8_queue m_divided aX8_divisors aX8_least m_pairOne m_pairTwo m_sumUp m_sumDown Q)) (K_2 : (Int → Int) → Int → Prop) (hK_2 : ∀ (m_row : Int → Int) (l1 : Int), rr64 m_row → r32 l1 → K_2 m_row l1 → Wat X 0 0 2 [(0, .ref hX8), (1, .int (i32 l1))] [] [(hX8, .inr (7, [.ref aX8_ups, .ref aX8_downs, .int (i32 m_many), .ref aX8_row, .int (i32 m_isSpent), .int (i32 m_found), .ref aX8_sumMany, .ref aX8_sumShares, .ref aX8_sumSet, .ref aX8_taken, .ref aX8_restUp, .ref aX8_restDown, .int (i32 m_fewest), .int (i32 m_wishes), .ref aX8_wished, .ref aX8_far, .ref aX8_queue, .int (i32 m_divided), .ref aX8_divisors, .ref aX8_least, .long (i64 m_pairOne), .long (i64 m_pairTwo), .long (i64 m_sumUp), .long (i64 m_sumDown)])), (aX8_row, aL X.cJ 17 m_row)]) : ∀ (m_row : Int → Int) (l1 : Int) (l2 : Int) (l4 : Int), rr64 m_row → r32 l1 → r64 l2 → r32 l4 → wp_X8_sort_61 Q m_many K_2 m_row l1 l2 l4 → Wat X 0 0 61 [(0, .ref hX8), (1, .int (i32 l1)), (2, .long (i64 l2)), (4, .int (i32 l4))] [] [(hX8, .inr (7, [.ref aX8_ups, .ref aX8_downs, .int (i32 m_many), .ref aX8_row, .int (i32 m_isSpent), .int (i32 m_found), .ref aX8_sumMany, .ref aX8_sumShares, .ref aX8_sumSet, .ref aX8_taken, .ref aX8_restUp, .ref aX8_restDown, .int (i32 m_fewest), .int (i32 m_wishes), .ref aX8_wished, .ref aX8_far, .ref aX8_queue, .int (i32 m_divided), .ref aX8_divisors, .ref aX8_least, .long (i64 m_pairOne), .long (i64 m_pairTwo), .long (i64 m_sumUp), .long (i64 m_sumDown)])), (aX8_row, aL X.cJ 17 m_row)] := by
  intro m_row l1 l2 l4 r_m_row r_l1 r_l2 r_l4 h
  rw [wp_X8_sort_61] at h
  refine q_aload_n g 0 0 rfl dX8_sort_61 ?_
  refine q_get (C := RX8) (T := TX8) (N := 24) g 16 inX8 0 3 rfl rfl (by decide) wF_X8_16 rfl dX8_sort_62 ?_
  refine q_iload g 4 3 rfl dX8_sort_65 ?_
  refine q_lload_n g 2 2 rfl dX8_sort_67 ?_
  obtain ⟨c68, h⟩ := h
  obtain ⟨e68, h⟩ := h
  refine q_last (ws' := [(hX8, .inr (7, [.ref aX8_ups, .ref aX8_downs, .int (i32 m_many), .ref aX8_row, .int (i32 m_isSpent), .int (i32 m_found), .ref aX8_sumMany, .ref aX8_sumShares, .ref aX8_sumSet, .ref aX8_taken, .ref aX8_restUp, .ref aX8_restDown, .int (i32 m_fewest), .int (i32 m_wishes), .ref aX8_wished, .ref aX8_far, .ref aX8_queue, .int (i32 m_divided), .ref aX8_divisors, .ref aX8_least, .long (i64 m_pairOne), .long (i64 m_pairTwo), .long (i64 m_sumUp), .long (i64 m_sumDown)])), (aX8_row, aL X.cJ 17 (ups m_row l4 l2))]) g 1 rfl c68 e68 (by decide) rfl dX8_sort_68 ?_
  obtain ⟨c69, h⟩ := h
  refine q_iinc (lv' := [(1, .int (i32 (l1 + 1))), (0, .ref hX8), (2, .long (i64 l2)), (4, .int (i32 l4))]) g 1 1 1 (by decide) rfl rfl dX8_sort_69 ?_
  refine q_goto g (-70) 2 (by decide) dX8_sort_72 ?_
  refine q_lv (lv' := [(0, .ref hX8), (1, .int (i32 (l1 + 1)))]) [1, 0] rfl ?_
  exact hK_2 (ups m_row l4 l2) (l1 + 1) (rr64_u r_m_row r_l2) c69 h
def wp_X8_sort_20 (Q : (Int → Int) → Prop) (m_many : Int) (K_2 : (Int → Int) → Int → Prop) : Nat → (Int → Int) → Int → Int → Int → Prop
  | 0, _, _, _, _ => False
  | n + 1, m_row, l1, l2, l4 => ((l4 ≤ 0 → wp_X8_sort_61 Q m_many K_2 m_row l1 l2 l4) ∧
  (¬ (l4 ≤ 0) → (r32 (l4 - 1) ∧ 0 ≤ (l4 - 1) ∧ (l4 - 1) < 17 ∧ (((m_row (l4 - 1)) ≤ l2 → wp_X8_sort_61 Q m_many K_2 m_row l1 l2 l4) ∧
  (¬ ((m_row (l4 - 1)) ≤ l2) → (r32 (l4 - 1) ∧ 0 ≤ (l4 - 1) ∧ (l4 - 1) < 17 ∧ ∀ x54 : Int, x54 = (m_row (l4 - 1)) → 0 ≤ l4 ∧ l4 < 17 ∧ r32 (l4 + (-1)) ∧ wp_X8_sort_20 Q m_many K_2 n (ups m_row l4 x54) l1 l2 (l4 + (-1))))))))
set_option maxHeartbeats 4000000 in
set_option maxRecDepth 100000 in
theorem s_X8_sort_20 {X : Cx} (g : Gd X cX8_sort RX8 none 5) (hR : X.R = rmL 1 0 0) (hX8 : Nat) (aX8_ups : Nat) (aX8_downs : Nat) (aX8_row : Nat) (m_isSpent : Int) (m_found : Int) (aX8_sumMany : Nat) (aX8_sumShares : Nat) (aX8_sumSet : Nat) (aX8_taken : Nat) (aX8_restUp : Nat) (aX8_restDown : Nat) (m_fewest : Int) (m_wishes : Int) (aX8_wished : Nat) (aX8_far : Nat) (aX8_queue : Nat) (m_divided : Int) (aX8_divisors : Nat) (aX8_least : Nat) (m_pairOne : Int) (m_pairTwo : Int) (m_sumUp : Int) (m_sumDown : Int) (m_many : Int) (r_m_many : r32 m_many) (Q : (Int → Int) → Prop) (hF : FQ X 0 0 (po_X8_sort X.cI X.cJ hX8 aX8_ups aX8_downs m_many aX8_row m_isSpent m_found aX8_sumMany aX8_sumShares aX8_sumSet aX8_taken aX8_restUp aX8_restDown m_fewest m_wishes aX8_wished aX8_far aX8_queue m_divided aX8_divisors aX8_least m_pairOne m_pairTwo m_sumUp m_sumDown Q)) (K_2 : (Int → Int) → Int → Prop) (hK_2 : ∀ (m_row : Int → Int) (l1 : Int), rr64 m_row → r32 l1 → K_2 m_row l1 → Wat X 0 0 2 [(0, .ref hX8), (1, .int (i32 l1))] [] [(hX8, .inr (7, [.ref aX8_ups, .ref aX8_downs, .int (i32 m_many), .ref aX8_row, .int (i32 m_isSpent), .int (i32 m_found), .ref aX8_sumMany, .ref aX8_sumShares, .ref aX8_sumSet, .ref aX8_taken, .ref aX8_restUp, .ref aX8_restDown, .int (i32 m_fewest), .int (i32 m_wishes), .ref aX8_wished, .ref aX8_far, .ref aX8_queue, .int (i32 m_divided), .ref aX8_divisors, .ref aX8_least, .long (i64 m_pairOne), .long (i64 m_pairTwo), .long (i64 m_sumUp), .long (i64 m_sumDown)])), (aX8_row, aL X.cJ 17 m_row)]) : ∀ (n : Nat) (m_row : Int → Int) (l1 : Int) (l2 : Int) (l4 : Int), rr64 m_row → r32 l1 → r64 l2 → r32 l4 → wp_X8_sort_20 Q m_many K_2 n m_row l1 l2 l4 → Wat X 0 0 20 [(0, .ref hX8), (1, .int (i32 l1)), (2, .long (i64 l2)), (4, .int (i32 l4))] [] [(hX8, .inr (7, [.ref aX8_ups, .ref aX8_downs, .int (i32 m_many), .ref aX8_row, .int (i32 m_isSpent), .int (i32 m_found), .ref aX8_sumMany, .ref aX8_sumShares, .ref aX8_sumSet, .ref aX8_taken, .ref aX8_restUp, .ref aX8_restDown, .int (i32 m_fewest), .int (i32 m_wishes), .ref aX8_wished, .ref aX8_far, .ref aX8_queue, .int (i32 m_divided), .ref aX8_divisors, .ref aX8_least, .long (i64 m_pairOne), .long (i64 m_pairTwo), .long (i64 m_sumUp), .long (i64 m_sumDown)])), (aX8_row, aL X.cJ 17 m_row)] := by
  intro n
  induction n with
  | zero => intro m_row l1 l2 l4 r_m_row r_l1 r_l2 r_l4 h; exact False.elim h
  | succ n ih =>
    intro m_row l1 l2 l4 r_m_row r_l1 r_l2 r_l4 h
    rw [wp_X8_sort_20] at h
    refine q_iload g 4 3 rfl dX8_sort_20 ?_
    refine q_if_le g (39) 61 r_l4 (by decide) dX8_sort_22 (fun b22 => ?_) (fun b22 => ?_)
    · replace h := h.1 b22
      exact s_X8_sort_61 g hR hX8 aX8_ups aX8_downs aX8_row m_isSpent m_found aX8_sumMany aX8_sumShares aX8_sumSet aX8_taken aX8_restUp aX8_restDown m_fewest m_wishes aX8_wished aX8_far aX8_queue m_divided aX8_divisors aX8_least m_pairOne m_pairTwo m_sumUp m_sumDown m_many r_m_many Q hF K_2 hK_2 m_row l1 l2 l4 r_m_row r_l1 r_l2 r_l4 h
    replace h := h.2 b22
    refine q_aload_n g 0 0 rfl dX8_sort_25 ?_
    refine q_get (C := RX8) (T := TX8) (N := 24) g 16 inX8 0 3 rfl rfl (by decide) wF_X8_16 rfl dX8_sort_26 ?_
    refine q_iload g 4 3 rfl dX8_sort_29 ?_
    refine q_iconst g (1) dX8_sort_31 ?_
    obtain ⟨c32, h⟩ := h
    refine q_isub g dX8_sort_32 ?_
    obtain ⟨c33, h⟩ := h
    obtain ⟨e33, h⟩ := h
    refine q_lald g 1 rfl c33 e33 (by decide) dX8_sort_33 ?_
    refine q_lload_n g 2 2 rfl dX8_sort_34 ?_
    refine q_lcmp_le g (25) 61 (r_m_row _) r_l2 (by decide) dX8_sort_35 dX8_sort_36 (fun b35 => ?_) (fun b35 => ?_)
    · replace h := h.1 b35
      exact s_X8_sort_61 g hR hX8 aX8_ups aX8_downs aX8_row m_isSpent m_found aX8_sumMany aX8_sumShares aX8_sumSet aX8_taken aX8_restUp aX8_restDown m_fewest m_wishes aX8_wished aX8_far aX8_queue m_divided aX8_divisors aX8_least m_pairOne m_pairTwo m_sumUp m_sumDown m_many r_m_many Q hF K_2 hK_2 m_row l1 l2 l4 r_m_row r_l1 r_l2 r_l4 h
    replace h := h.2 b35
    refine q_aload_n g 0 0 rfl dX8_sort_39 ?_
    refine q_get (C := RX8) (T := TX8) (N := 24) g 16 inX8 0 3 rfl rfl (by decide) wF_X8_16 rfl dX8_sort_40 ?_
    refine q_iload g 4 3 rfl dX8_sort_43 ?_
    refine q_aload_n g 0 0 rfl dX8_sort_45 ?_
    refine q_get (C := RX8) (T := TX8) (N := 24) g 16 inX8 0 3 rfl rfl (by decide) wF_X8_16 rfl dX8_sort_46 ?_
    refine q_iload g 4 3 rfl dX8_sort_49 ?_
    refine q_iconst g (1) dX8_sort_51 ?_
    obtain ⟨c52, h⟩ := h
    refine q_isub g dX8_sort_52 ?_
    obtain ⟨c53, h⟩ := h
    obtain ⟨e53, h⟩ := h
    refine q_lald g 1 rfl c53 e53 (by decide) dX8_sort_53 ?_
    refine q_topl (r_m_row _) (fun x54 ex54 rx54 => ?_)
    replace h := h x54 ex54
    obtain ⟨c54, h⟩ := h
    obtain ⟨e54, h⟩ := h
    refine q_last (ws' := [(hX8, .inr (7, [.ref aX8_ups, .ref aX8_downs, .int (i32 m_many), .ref aX8_row, .int (i32 m_isSpent), .int (i32 m_found), .ref aX8_sumMany, .ref aX8_sumShares, .ref aX8_sumSet, .ref aX8_taken, .ref aX8_restUp, .ref aX8_restDown, .int (i32 m_fewest), .int (i32 m_wishes), .ref aX8_wished, .ref aX8_far, .ref aX8_queue, .int (i32 m_divided), .ref aX8_divisors, .ref aX8_least, .long (i64 m_pairOne), .long (i64 m_pairTwo), .long (i64 m_sumUp), .long (i64 m_sumDown)])), (aX8_row, aL X.cJ 17 (ups m_row l4 x54))]) g 1 rfl c54 e54 (by decide) rfl dX8_sort_54 ?_
    obtain ⟨c55, h⟩ := h
    refine q_iinc (lv' := [(4, .int (i32 (l4 + (-1)))), (0, .ref hX8), (1, .int (i32 l1)), (2, .long (i64 l2))]) g 4 3 (-1) (by decide) rfl rfl dX8_sort_55 ?_
    refine q_goto g (-38) 20 (by decide) dX8_sort_58 ?_
    refine q_lv (lv' := [(0, .ref hX8), (1, .int (i32 l1)), (2, .long (i64 l2)), (4, .int (i32 (l4 + (-1))))]) [1, 2, 3, 0] rfl ?_
    exact ih (ups m_row l4 x54) l1 l2 (l4 + (-1)) (rr64_u r_m_row rx54) r_l1 r_l2 c55 h
def wp_X8_sort_2 (Q : (Int → Int) → Prop) (m_many : Int) : Nat → (Int → Int) → Int → Prop
  | 0, _, _ => False
  | n + 1, m_row, l1 => ((m_many ≤ l1 → Q m_row) ∧
  (¬ (m_many ≤ l1) → (0 ≤ l1 ∧ l1 < 17 ∧ ∀ x16 : Int, x16 = (m_row l1) → (∃ n0 : Nat, wp_X8_sort_20 Q m_many (wp_X8_sort_2 Q m_many n) n0 m_row l1 x16 l1))))
set_option maxHeartbeats 4000000 in
set_option maxRecDepth 100000 in
theorem s_X8_sort_2 {X : Cx} (g : Gd X cX8_sort RX8 none 5) (hR : X.R = rmL 1 0 0) (hX8 : Nat) (aX8_ups : Nat) (aX8_downs : Nat) (aX8_row : Nat) (m_isSpent : Int) (m_found : Int) (aX8_sumMany : Nat) (aX8_sumShares : Nat) (aX8_sumSet : Nat) (aX8_taken : Nat) (aX8_restUp : Nat) (aX8_restDown : Nat) (m_fewest : Int) (m_wishes : Int) (aX8_wished : Nat) (aX8_far : Nat) (aX8_queue : Nat) (m_divided : Int) (aX8_divisors : Nat) (aX8_least : Nat) (m_pairOne : Int) (m_pairTwo : Int) (m_sumUp : Int) (m_sumDown : Int) (m_many : Int) (r_m_many : r32 m_many) (Q : (Int → Int) → Prop) (hF : FQ X 0 0 (po_X8_sort X.cI X.cJ hX8 aX8_ups aX8_downs m_many aX8_row m_isSpent m_found aX8_sumMany aX8_sumShares aX8_sumSet aX8_taken aX8_restUp aX8_restDown m_fewest m_wishes aX8_wished aX8_far aX8_queue m_divided aX8_divisors aX8_least m_pairOne m_pairTwo m_sumUp m_sumDown Q)) : ∀ (n : Nat) (m_row : Int → Int) (l1 : Int), rr64 m_row → r32 l1 → wp_X8_sort_2 Q m_many n m_row l1 → Wat X 0 0 2 [(0, .ref hX8), (1, .int (i32 l1))] [] [(hX8, .inr (7, [.ref aX8_ups, .ref aX8_downs, .int (i32 m_many), .ref aX8_row, .int (i32 m_isSpent), .int (i32 m_found), .ref aX8_sumMany, .ref aX8_sumShares, .ref aX8_sumSet, .ref aX8_taken, .ref aX8_restUp, .ref aX8_restDown, .int (i32 m_fewest), .int (i32 m_wishes), .ref aX8_wished, .ref aX8_far, .ref aX8_queue, .int (i32 m_divided), .ref aX8_divisors, .ref aX8_least, .long (i64 m_pairOne), .long (i64 m_pairTwo), .long (i64 m_sumUp), .long (i64 m_sumDown)])), (aX8_row, aL X.cJ 17 m_row)] := by
  intro n
  induction n with
  | zero => intro m_row l1 r_m_row r_l1 h; exact False.elim h
  | succ n ih =>
    intro m_row l1 r_m_row r_l1 h
    rw [wp_X8_sort_2] at h
    refine q_iload_n g 1 1 rfl dX8_sort_2 ?_
    refine q_aload_n g 0 0 rfl dX8_sort_3 ?_
    refine q_get (C := RX8) (T := TX8) (N := 24) g 84 inX8 0 2 rfl rfl (by decide) wF_X8_84 rfl dX8_sort_4 ?_
    refine q_icmp_ge g (68) 75 r_l1 r_m_many (by decide) dX8_sort_7 (fun b7 => ?_) (fun b7 => ?_)
    · replace h := h.1 b7
      exact q_vret g hF ⟨m_row, rfl, rfl, r_m_row, h⟩ dX8_sort_75
    replace h := h.2 b7
    refine q_aload_n g 0 0 rfl dX8_sort_10 ?_
    refine q_get (C := RX8) (T := TX8) (N := 24) g 16 inX8 0 3 rfl rfl (by decide) wF_X8_16 rfl dX8_sort_11 ?_
    refine q_iload_n g 1 1 rfl dX8_sort_14 ?_
    obtain ⟨c15, h⟩ := h
    obtain ⟨e15, h⟩ := h
    refine q_lald g 1 rfl c15 e15 (by decide) dX8_sort_15 ?_
    refine q_topl (r_m_row _) (fun x16 ex16 rx16 => ?_)
    replace h := h x16 ex16
    refine q_lstore_n (lv' := [(2, .long (i64 x16)), (0, .ref hX8), (1, .int (i32 l1))]) g 2 2 rfl (by decide) rfl dX8_sort_16 ?_
    refine q_iload_n g 1 2 rfl dX8_sort_17 ?_
    refine q_istore (lv' := [(4, .int (i32 l1)), (2, .long (i64 x16)), (0, .ref hX8), (1, .int (i32 l1))]) g 4   (by decide) rfl dX8_sort_18 ?_
    refine q_lv (lv' := [(0, .ref hX8), (1, .int (i32 l1)), (2, .long (i64 x16)), (4, .int (i32 l1))]) [2, 3, 1, 0] rfl ?_
    obtain ⟨n0, h⟩ := h
    exact s_X8_sort_20 g hR hX8 aX8_ups aX8_downs aX8_row m_isSpent m_found aX8_sumMany aX8_sumShares aX8_sumSet aX8_taken aX8_restUp aX8_restDown m_fewest m_wishes aX8_wished aX8_far aX8_queue m_divided aX8_divisors aX8_least m_pairOne m_pairTwo m_sumUp m_sumDown m_many r_m_many Q hF (wp_X8_sort_2 Q m_many n) (fun v0 v1 w0 w1 hh => ih v0 v1 w0 w1 hh) n0 m_row l1 x16 l1 r_m_row r_l1 rx16 r_l1 h
def wp_X8_sort (Q : (Int → Int) → Prop) (m_many : Int) (m_row : Int → Int) : Prop := (∃ n0 : Nat, wp_X8_sort_2 Q m_many n0 m_row 1)
set_option maxHeartbeats 4000000 in
set_option maxRecDepth 100000 in
theorem c_X8_sort (l : Launch) (D : va_G) (cI cJ : ClassId) (zt : Nat) (hX8 : Nat) (aX8_ups : Nat) (aX8_downs : Nat) (m_many : Int) (aX8_row : Nat) (m_isSpent : Int) (m_found : Int) (aX8_sumMany : Nat) (aX8_sumShares : Nat) (aX8_sumSet : Nat) (aX8_taken : Nat) (aX8_restUp : Nat) (aX8_restDown : Nat) (m_fewest : Int) (m_wishes : Int) (aX8_wished : Nat) (aX8_far : Nat) (aX8_queue : Nat) (m_divided : Int) (aX8_divisors : Nat) (aX8_least : Nat) (m_pairOne : Int) (m_pairTwo : Int) (m_sumUp : Int) (m_sumDown : Int) (m_row : Int → Int) (Q : (Int → Int) → Prop) (r_m_many : r32 m_many) (r_m_row : rr64 m_row) (h : wp_X8_sort Q m_many m_row) : Ct l D cI cJ zt yX8_sort cX8_sort 5 none 1 0 0 [.ref hX8] [(hX8, .inr (7, [.ref aX8_ups, .ref aX8_downs, .int (i32 m_many), .ref aX8_row, .int (i32 m_isSpent), .int (i32 m_found), .ref aX8_sumMany, .ref aX8_sumShares, .ref aX8_sumSet, .ref aX8_taken, .ref aX8_restUp, .ref aX8_restDown, .int (i32 m_fewest), .int (i32 m_wishes), .ref aX8_wished, .ref aX8_far, .ref aX8_queue, .int (i32 m_divided), .ref aX8_divisors, .ref aX8_least, .long (i64 m_pairOne), .long (i64 m_pairTwo), .long (i64 m_sumUp), .long (i64 m_sumDown)])), (aX8_row, aL cJ 17 m_row)] (po_X8_sort cI cJ hX8 aX8_ups aX8_downs m_many aX8_row m_isSpent m_found aX8_sumMany aX8_sumShares aX8_sumSet aX8_taken aX8_restUp aX8_restDown m_fewest m_wishes aX8_wished aX8_far aX8_queue m_divided aX8_divisors aX8_least m_pairOne m_pairTwo m_sumUp m_sumDown Q) := by
  refine ct_of (by decide +kernel) (Nat.le_of_ble_eq_true rfl) (fun X hl hDD hcI hcJ hzt hR hF hnm g => ?_)
  subst hl; subst hDD; subst hcI; subst hcJ; subst hzt
  show Wat X 0 0 0 [(0, .ref hX8)] [] [(hX8, .inr (7, [.ref aX8_ups, .ref aX8_downs, .int (i32 m_many), .ref aX8_row, .int (i32 m_isSpent), .int (i32 m_found), .ref aX8_sumMany, .ref aX8_sumShares, .ref aX8_sumSet, .ref aX8_taken, .ref aX8_restUp, .ref aX8_restDown, .int (i32 m_fewest), .int (i32 m_wishes), .ref aX8_wished, .ref aX8_far, .ref aX8_queue, .int (i32 m_divided), .ref aX8_divisors, .ref aX8_least, .long (i64 m_pairOne), .long (i64 m_pairTwo), .long (i64 m_sumUp), .long (i64 m_sumDown)])), (aX8_row, aL X.cJ 17 m_row)]
  replace g : Gd X cX8_sort RX8 none 5 := g
  rw [wp_X8_sort] at h
  refine q_iconst g (1) dX8_sort_0 ?_
  refine q_istore_n (lv' := [(1, .int (i32 1)), (0, .ref hX8)]) g 1 1 rfl (by decide) rfl dX8_sort_1 ?_
  refine q_lv (lv' := [(0, .ref hX8), (1, .int (i32 1))]) [1, 0] rfl ?_
  obtain ⟨n0, h⟩ := h
  exact s_X8_sort_2 g hR hX8 aX8_ups aX8_downs aX8_row m_isSpent m_found aX8_sumMany aX8_sumShares aX8_sumSet aX8_taken aX8_restUp aX8_restDown m_fewest m_wishes aX8_wished aX8_far aX8_queue m_divided aX8_divisors aX8_least m_pairOne m_pairTwo m_sumUp m_sumDown m_many r_m_many Q hF n0 m_row 1 r_m_row (r32_lit _ (by decide)) h
theorem dX8_middles_0 : decode cX8_middles 0 = .ok (.lload_n 1, 1) := by decide +kernel
theorem dX8_middles_1 : decode cX8_middles 1 = .ok (.lstore 5, 2) := by decide +kernel
theorem dX8_middles_3 : decode cX8_middles 3 = .ok (.lload_n 3, 1) := by decide +kernel
theorem dX8_middles_4 : decode cX8_middles 4 = .ok (.lstore 7, 2) := by decide +kernel
theorem dX8_middles_6 : decode cX8_middles 6 = .ok (.lload 5, 2) := by decide +kernel
theorem dX8_middles_8 : decode cX8_middles 8 = .ok (.lconst 0, 1) := by decide +kernel
theorem dX8_middles_9 : decode cX8_middles 9 = .ok (.lcmp, 1) := by decide +kernel
theorem dX8_middles_10 : decode cX8_middles 10 = .ok (.ifCond .le 141, 3) := by decide +kernel
theorem dX8_middles_13 : decode cX8_middles 13 = .ok (.aload_n 0, 1) := by decide +kernel
theorem dX8_middles_14 : decode cX8_middles 14 = .ok (.getfield 80, 3) := by decide +kernel
theorem dX8_middles_17 : decode cX8_middles 17 = .ok (.ifCond .ne 134, 3) := by decide +kernel
theorem dX8_middles_20 : decode cX8_middles 20 = .ok (.lconst 1, 1) := by decide +kernel
theorem dX8_middles_21 : decode cX8_middles 21 = .ok (.lstore 9, 2) := by decide +kernel
theorem dX8_middles_23 : decode cX8_middles 23 = .ok (.lload 5, 2) := by decide +kernel
theorem dX8_middles_25 : decode cX8_middles 25 = .ok (.lstore 11, 2) := by decide +kernel
theorem dX8_middles_27 : decode cX8_middles 27 = .ok (.lload 7, 2) := by decide +kernel
theorem dX8_middles_29 : decode cX8_middles 29 = .ok (.lstore 13, 2) := by decide +kernel
theorem dX8_middles_31 : decode cX8_middles 31 = .ok (.lconst 1, 1) := by decide +kernel
theorem dX8_middles_32 : decode cX8_middles 32 = .ok (.lstore 15, 2) := by decide +kernel
theorem dX8_middles_34 : decode cX8_middles 34 = .ok (.lconst 0, 1) := by decide +kernel
theorem dX8_middles_35 : decode cX8_middles 35 = .ok (.lstore 17, 2) := by decide +kernel
theorem dX8_middles_37 : decode cX8_middles 37 = .ok (.lload 13, 2) := by decide +kernel
theorem dX8_middles_39 : decode cX8_middles 39 = .ok (.lconst 0, 1) := by decide +kernel
theorem dX8_middles_40 : decode cX8_middles 40 = .ok (.lcmp, 1) := by decide +kernel
theorem dX8_middles_41 : decode cX8_middles 41 = .ok (.ifCond .eq 49, 3) := by decide +kernel
theorem dX8_middles_44 : decode cX8_middles 44 = .ok (.lload 11, 2) := by decide +kernel
theorem dX8_middles_46 : decode cX8_middles 46 = .ok (.lload 13, 2) := by decide +kernel
theorem dX8_middles_48 : decode cX8_middles 48 = .ok (.ldiv, 1) := by decide +kernel
theorem dX8_middles_49 : decode cX8_middles 49 = .ok (.lstore 19, 2) := by decide +kernel
theorem dX8_middles_51 : decode cX8_middles 51 = .ok (.lload 11, 2) := by decide +kernel
theorem dX8_middles_53 : decode cX8_middles 53 = .ok (.lload 19, 2) := by decide +kernel
theorem dX8_middles_55 : decode cX8_middles 55 = .ok (.lload 13, 2) := by decide +kernel
theorem dX8_middles_57 : decode cX8_middles 57 = .ok (.lmul, 1) := by decide +kernel
theorem dX8_middles_58 : decode cX8_middles 58 = .ok (.lsub, 1) := by decide +kernel
theorem dX8_middles_59 : decode cX8_middles 59 = .ok (.lstore 21, 2) := by decide +kernel
theorem dX8_middles_61 : decode cX8_middles 61 = .ok (.lload 13, 2) := by decide +kernel
theorem dX8_middles_63 : decode cX8_middles 63 = .ok (.lstore 11, 2) := by decide +kernel
theorem dX8_middles_65 : decode cX8_middles 65 = .ok (.lload 21, 2) := by decide +kernel
theorem dX8_middles_67 : decode cX8_middles 67 = .ok (.lstore 13, 2) := by decide +kernel
theorem dX8_middles_69 : decode cX8_middles 69 = .ok (.lload 15, 2) := by decide +kernel
theorem dX8_middles_71 : decode cX8_middles 71 = .ok (.lload 19, 2) := by decide +kernel
theorem dX8_middles_73 : decode cX8_middles 73 = .ok (.lload 17, 2) := by decide +kernel
theorem dX8_middles_75 : decode cX8_middles 75 = .ok (.lmul, 1) := by decide +kernel
theorem dX8_middles_76 : decode cX8_middles 76 = .ok (.lsub, 1) := by decide +kernel
theorem dX8_middles_77 : decode cX8_middles 77 = .ok (.lstore 23, 2) := by decide +kernel
theorem dX8_middles_79 : decode cX8_middles 79 = .ok (.lload 17, 2) := by decide +kernel
theorem dX8_middles_81 : decode cX8_middles 81 = .ok (.lstore 15, 2) := by decide +kernel
theorem dX8_middles_83 : decode cX8_middles 83 = .ok (.lload 23, 2) := by decide +kernel
theorem dX8_middles_85 : decode cX8_middles 85 = .ok (.lstore 17, 2) := by decide +kernel
theorem dX8_middles_87 : decode cX8_middles 87 = .ok (.goto (-50), 3) := by decide +kernel
theorem dX8_middles_90 : decode cX8_middles 90 = .ok (.lload 15, 2) := by decide +kernel
theorem dX8_middles_92 : decode cX8_middles 92 = .ok (.lload 7, 2) := by decide +kernel
theorem dX8_middles_94 : decode cX8_middles 94 = .ok (.lrem, 1) := by decide +kernel
theorem dX8_middles_95 : decode cX8_middles 95 = .ok (.lload 7, 2) := by decide +kernel
theorem dX8_middles_97 : decode cX8_middles 97 = .ok (.ladd, 1) := by decide +kernel
theorem dX8_middles_98 : decode cX8_middles 98 = .ok (.lload 7, 2) := by decide +kernel
theorem dX8_middles_100 : decode cX8_middles 100 = .ok (.lrem, 1) := by decide +kernel
theorem dX8_middles_101 : decode cX8_middles 101 = .ok (.lstore 9, 2) := by decide +kernel
theorem dX8_middles_103 : decode cX8_middles 103 = .ok (.lload 9, 2) := by decide +kernel
theorem dX8_middles_105 : decode cX8_middles 105 = .ok (.lconst 0, 1) := by decide +kernel
theorem dX8_middles_106 : decode cX8_middles 106 = .ok (.lcmp, 1) := by decide +kernel
theorem dX8_middles_107 : decode cX8_middles 107 = .ok (.ifCond .ne 8, 3) := by decide +kernel
theorem dX8_middles_110 : decode cX8_middles 110 = .ok (.lload 7, 2) := by decide +kernel
theorem dX8_middles_112 : decode cX8_middles 112 = .ok (.goto 5, 3) := by decide +kernel
theorem dX8_middles_115 : decode cX8_middles 115 = .ok (.lload 9, 2) := by decide +kernel
theorem dX8_middles_117 : decode cX8_middles 117 = .ok (.lstore 9, 2) := by decide +kernel
theorem dX8_middles_119 : decode cX8_middles 119 = .ok (.aload_n 0, 1) := by decide +kernel
theorem dX8_middles_120 : decode cX8_middles 120 = .ok (.lload 7, 2) := by decide +kernel
theorem dX8_middles_122 : decode cX8_middles 122 = .ok (.lload 9, 2) := by decide +kernel
theorem dX8_middles_124 : decode cX8_middles 124 = .ok (.lmul, 1) := by decide +kernel
theorem dX8_middles_125 : decode cX8_middles 125 = .ok (.invokevirtual 95, 3) := by decide +kernel
theorem dX8_middles_128 : decode cX8_middles 128 = .ok (.lload 5, 2) := by decide +kernel
theorem dX8_middles_130 : decode cX8_middles 130 = .ok (.lload 9, 2) := by decide +kernel
theorem dX8_middles_132 : decode cX8_middles 132 = .ok (.lmul, 1) := by decide +kernel
theorem dX8_middles_133 : decode cX8_middles 133 = .ok (.lconst 1, 1) := by decide +kernel
theorem dX8_middles_134 : decode cX8_middles 134 = .ok (.lsub, 1) := by decide +kernel
theorem dX8_middles_135 : decode cX8_middles 135 = .ok (.lload 7, 2) := by decide +kernel
theorem dX8_middles_137 : decode cX8_middles 137 = .ok (.ldiv, 1) := by decide +kernel
theorem dX8_middles_138 : decode cX8_middles 138 = .ok (.lstore 19, 2) := by decide +kernel
theorem dX8_middles_140 : decode cX8_middles 140 = .ok (.lload 19, 2) := by decide +kernel
theorem dX8_middles_142 : decode cX8_middles 142 = .ok (.lstore 5, 2) := by decide +kernel
theorem dX8_middles_144 : decode cX8_middles 144 = .ok (.lload 9, 2) := by decide +kernel
theorem dX8_middles_146 : decode cX8_middles 146 = .ok (.lstore 7, 2) := by decide +kernel
theorem dX8_middles_148 : decode cX8_middles 148 = .ok (.goto (-142), 3) := by decide +kernel
theorem dX8_middles_151 : decode cX8_middles 151 = .ok (.return_, 1) := by decide +kernel
abbrev po_X8_middles (cI cJ : ClassId) (hX8 : Nat) (aX8_ups : Nat) (aX8_downs : Nat) (aX8_row : Nat) (m_found : Int) (aX8_sumMany : Nat) (aX8_sumShares : Nat) (aX8_sumSet : Nat) (aX8_taken : Nat) (aX8_restUp : Nat) (aX8_restDown : Nat) (m_fewest : Int) (m_wishes : Int) (aX8_wished : Nat) (aX8_far : Nat) (aX8_queue : Nat) (m_divided : Int) (aX8_divisors : Nat) (aX8_least : Nat) (m_pairOne : Int) (m_pairTwo : Int) (m_sumUp : Int) (m_sumDown : Int) (Q : Int → (Int → Int) → Int → Prop) : Option Value → va_W → Prop := fun rv w1 => ∃ (m_many : Int) (m_row : Int → Int) (m_isSpent : Int), rv = none ∧ w1 = [(hX8, .inr (7, [.ref aX8_ups, .ref aX8_downs, .int (i32 m_many), .ref aX8_row, .int (i32 m_isSpent), .int (i32 m_found), .ref aX8_sumMany, .ref aX8_sumShares, .ref aX8_sumSet, .ref aX8_taken, .ref aX8_restUp, .ref aX8_restDown, .int (i32 m_fewest), .int (i32 m_wishes), .ref aX8_wished, .ref aX8_far, .ref aX8_queue, .int (i32 m_divided), .ref aX8_divisors, .ref aX8_least, .long (i64 m_pairOne), .long (i64 m_pairTwo), .long (i64 m_sumUp), .long (i64 m_sumDown)])), (aX8_row, aL cJ 17 m_row)] ∧ r32 m_many ∧ rr64 m_row ∧ r32 m_isSpent ∧ Q m_many m_row m_isSpent
def wp_X8_middles_117 (Q : Int → (Int → Int) → Int → Prop) (K_6 : Int → (Int → Int) → Int → Int → Int → Prop) (m_many : Int) (m_row : Int → Int) (m_isSpent : Int) (l5 : Int) (l7 : Int) (k0 : Int) : Prop := (r64 (l7 * k0) ∧ wp_X8_put (fun (m_many_125 : Int) (m_row_125 : Int → Int) (m_isSpent_125 : Int) => (r64 (l5 * k0) ∧ r64 ((l5 * k0) - 1) ∧ 0 < l7 ∧ ∀ x138 : Int, x138 = (Int.tdiv ((l5 * k0) - 1) l7) → K_6 m_many_125 m_row_125 m_isSpent_125 x138 k0)) m_many m_row m_isSpent (l7 * k0))
set_option maxHeartbeats 4000000 in
set_option maxRecDepth 100000 in
theorem s_X8_middles_117 {X : Cx} (g : Gd X cX8_middles RX8 none 25) (hR : X.R = rmL 2 0 0) (hX8 : Nat) (aX8_ups : Nat) (aX8_downs : Nat) (aX8_row : Nat) (m_found : Int) (aX8_sumMany : Nat) (aX8_sumShares : Nat) (aX8_sumSet : Nat) (aX8_taken : Nat) (aX8_restUp : Nat) (aX8_restDown : Nat) (m_fewest : Int) (m_wishes : Int) (aX8_wished : Nat) (aX8_far : Nat) (aX8_queue : Nat) (m_divided : Int) (aX8_divisors : Nat) (aX8_least : Nat) (m_pairOne : Int) (m_pairTwo : Int) (m_sumUp : Int) (m_sumDown : Int) (Q : Int → (Int → Int) → Int → Prop) (hF : FQ X 0 0 (po_X8_middles X.cI X.cJ hX8 aX8_ups aX8_downs aX8_row m_found aX8_sumMany aX8_sumShares aX8_sumSet aX8_taken aX8_restUp aX8_restDown m_fewest m_wishes aX8_wished aX8_far aX8_queue m_divided aX8_divisors aX8_least m_pairOne m_pairTwo m_sumUp m_sumDown Q)) (K_6 : Int → (Int → Int) → Int → Int → Int → Prop) (hK_6 : ∀ (m_many : Int) (m_row : Int → Int) (m_isSpent : Int) (l5 : Int) (l7 : Int), r32 m_many → rr64 m_row → r32 m_isSpent → r64 l5 → r64 l7 → K_6 m_many m_row m_isSpent l5 l7 → Wat X 0 0 6 [(0, .ref hX8), (5, .long (i64 l5)), (7, .long (i64 l7))] [] [(hX8, .inr (7, [.ref aX8_ups, .ref aX8_downs, .int (i32 m_many), .ref aX8_row, .int (i32 m_isSpent), .int (i32 m_found), .ref aX8_sumMany, .ref aX8_sumShares, .ref aX8_sumSet, .ref aX8_taken, .ref aX8_restUp, .ref aX8_restDown, .int (i32 m_fewest), .int (i32 m_wishes), .ref aX8_wished, .ref aX8_far, .ref aX8_queue, .int (i32 m_divided), .ref aX8_divisors, .ref aX8_least, .long (i64 m_pairOne), .long (i64 m_pairTwo), .long (i64 m_sumUp), .long (i64 m_sumDown)])), (aX8_row, aL X.cJ 17 m_row)]) : ∀ (m_many : Int) (m_row : Int → Int) (m_isSpent : Int) (l5 : Int) (l7 : Int) (k0 : Int), r32 m_many → rr64 m_row → r32 m_isSpent → r64 l5 → r64 l7 → r64 k0 → wp_X8_middles_117 Q K_6 m_many m_row m_isSpent l5 l7 k0 → Wat X 0 0 117 [(0, .ref hX8), (5, .long (i64 l5)), (7, .long (i64 l7))] [.long (i64 k0)] [(hX8, .inr (7, [.ref aX8_ups, .ref aX8_downs, .int (i32 m_many), .ref aX8_row, .int (i32 m_isSpent), .int (i32 m_found), .ref aX8_sumMany, .ref aX8_sumShares, .ref aX8_sumSet, .ref aX8_taken, .ref aX8_restUp, .ref aX8_restDown, .int (i32 m_fewest), .int (i32 m_wishes), .ref aX8_wished, .ref aX8_far, .ref aX8_queue, .int (i32 m_divided), .ref aX8_divisors, .ref aX8_least, .long (i64 m_pairOne), .long (i64 m_pairTwo), .long (i64 m_sumUp), .long (i64 m_sumDown)])), (aX8_row, aL X.cJ 17 m_row)] := by
  intro m_many m_row m_isSpent l5 l7 k0 r_m_many r_m_row r_m_isSpent r_l5 r_l7 r_k0 h
  rw [wp_X8_middles_117] at h
  refine q_lstore (lv' := [(9, .long (i64 k0)), (0, .ref hX8), (5, .long (i64 l5)), (7, .long (i64 l7))]) g 9   (by decide) rfl dX8_middles_117 ?_
  refine q_aload_n g 0 1 rfl dX8_middles_119 ?_
  refine q_lload g 7 3 rfl dX8_middles_120 ?_
  refine q_lload g 9 0 rfl dX8_middles_122 ?_
  obtain ⟨c124, h⟩ := h
  refine q_lmul g dX8_middles_124 ?_
  refine q_callV (lev := 1) (mc := 0) (ms := 0) g 95 (c_X8_put X.l X.D X.cI X.cJ X.zt hX8 aX8_ups aX8_downs m_many aX8_row m_isSpent m_found aX8_sumMany aX8_sumShares aX8_sumSet aX8_taken aX8_restUp aX8_restDown m_fewest m_wishes aX8_wished aX8_far aX8_queue m_divided aX8_divisors aX8_least m_pairOne m_pairTwo m_sumUp m_sumDown m_row (l7 * k0) _ r_m_many r_m_row r_m_isSpent c124 h) (wr := []) [0, 1] [] rfl rfl rfl (by decide) (by decide) (by decide) (ci := 7) rfl rfl rfl wM_X8_95 wI_X8_put wS_X8_put wZ_X8 wC_X8_put 1 rfl (by decide +kernel) (by rw [hR]; exact ⟨by show 1 + 1 ≤ 2; omega, by show 8 + (3 + 11) + 100 * 1 ≤ 100 * 2; omega⟩) (by rw [hR]; exact ⟨Nat.le_refl _, Nat.le_refl _⟩) (Nat.le_of_ble_eq_true rfl) rfl dX8_middles_125 (fun rv w1 hq => ?_)
  obtain ⟨m_many_125, m_row_125, m_isSpent_125, rfl, rfl, rm_many_125, rm_row_125, rm_isSpent_125, h⟩ := hq
  show Wat X 0 0 128 [(9, .long (i64 k0)), (0, .ref hX8), (5, .long (i64 l5)), (7, .long (i64 l7))] [] [(hX8, .inr (7, [.ref aX8_ups, .ref aX8_downs, .int (i32 m_many_125), .ref aX8_row, .int (i32 m_isSpent_125), .int (i32 m_found), .ref aX8_sumMany, .ref aX8_sumShares, .ref aX8_sumSet, .ref aX8_taken, .ref aX8_restUp, .ref aX8_restDown, .int (i32 m_fewest), .int (i32 m_wishes), .ref aX8_wished, .ref aX8_far, .ref aX8_queue, .int (i32 m_divided), .ref aX8_divisors, .ref aX8_least, .long (i64 m_pairOne), .long (i64 m_pairTwo), .long (i64 m_sumUp), .long (i64 m_sumDown)])), (aX8_row, aL X.cJ 17 m_row_125)]
  refine q_lload g 5 2 rfl dX8_middles_128 ?_
  refine q_lload g 9 0 rfl dX8_middles_130 ?_
  obtain ⟨c132, h⟩ := h
  refine q_lmul g dX8_middles_132 ?_
  refine q_lconst g 1 1 rfl dX8_middles_133 ?_
  obtain ⟨c134, h⟩ := h
  refine q_lsub g dX8_middles_134 ?_
  refine q_lload g 7 3 rfl dX8_middles_135 ?_
  obtain ⟨c137, h⟩ := h
  refine q_ldiv g c134 r_l7 (ne_of_pos c137) dX8_middles_137 ?_
  refine q_topl (r64_tdiv c134 c137) (fun x138 ex138 rx138 => ?_)
  replace h := h x138 ex138
  refine q_lstore (lv' := [(19, .long (i64 x138)), (9, .long (i64 k0)), (0, .ref hX8), (5, .long (i64 l5)), (7, .long (i64 l7))]) g 19   (by decide) rfl dX8_middles_138 ?_
  refine q_lload g 19 0 rfl dX8_middles_140 ?_
  refine q_lstore (lv' := [(5, .long (i64 x138)), (19, .long (i64 x138)), (9, .long (i64 k0)), (0, .ref hX8), (7, .long (i64 l7))]) g 5   (by decide) rfl dX8_middles_142 ?_
  refine q_lload g 9 2 rfl dX8_middles_144 ?_
  refine q_lstore (lv' := [(7, .long (i64 k0)), (5, .long (i64 x138)), (19, .long (i64 x138)), (9, .long (i64 k0)), (0, .ref hX8)]) g 7   (by decide) rfl dX8_middles_146 ?_
  refine q_goto g (-142) 6 (by decide) dX8_middles_148 ?_
  refine q_lv (lv' := [(0, .ref hX8), (5, .long (i64 x138)), (7, .long (i64 k0))]) [4, 1, 0] rfl ?_
  exact hK_6 m_many_125 m_row_125 m_isSpent_125 x138 k0 rm_many_125 rm_row_125 rm_isSpent_125 rx138 r_k0 h
def wp_X8_middles_37 (Q : Int → (Int → Int) → Int → Prop) (K_6 : Int → (Int → Int) → Int → Int → Int → Prop) : Nat → Int → (Int → Int) → Int → Int → Int → Int → Int → Int → Int → Prop
  | 0, _, _, _, _, _, _, _, _, _ => False
  | n + 1, m_many, m_row, m_isSpent, l5, l7, l11, l13, l15, l17 => ((l13 = 0 → (0 < l7 ∧ r64 ((l15.tmod l7) + l7) ∧ 0 < l7 ∧ ∀ x101 : Int, x101 = (Int.tmod ((l15.tmod l7) + l7) l7) → ((¬ x101 = 0 → wp_X8_middles_117 Q K_6 m_many m_row m_isSpent l5 l7 x101) ∧
  (x101 = 0 → wp_X8_middles_117 Q K_6 m_many m_row m_isSpent l5 l7 l7)))) ∧
  (¬ (l13 = 0) → (0 < l13 ∧ ∀ x49 : Int, x49 = (l11.tdiv l13) → r64 (x49 * l13) ∧ r64 (l11 - (x49 * l13)) ∧ ∀ x59 : Int, x59 = (l11 - (x49 * l13)) → r64 (x49 * l17) ∧ r64 (l15 - (x49 * l17)) ∧ ∀ x77 : Int, x77 = (l15 - (x49 * l17)) → wp_X8_middles_37 Q K_6 n m_many m_row m_isSpent l5 l7 l13 x59 l17 x77)))
set_option maxHeartbeats 4000000 in
set_option maxRecDepth 100000 in
theorem s_X8_middles_37 {X : Cx} (g : Gd X cX8_middles RX8 none 25) (hR : X.R = rmL 2 0 0) (hX8 : Nat) (aX8_ups : Nat) (aX8_downs : Nat) (aX8_row : Nat) (m_found : Int) (aX8_sumMany : Nat) (aX8_sumShares : Nat) (aX8_sumSet : Nat) (aX8_taken : Nat) (aX8_restUp : Nat) (aX8_restDown : Nat) (m_fewest : Int) (m_wishes : Int) (aX8_wished : Nat) (aX8_far : Nat) (aX8_queue : Nat) (m_divided : Int) (aX8_divisors : Nat) (aX8_least : Nat) (m_pairOne : Int) (m_pairTwo : Int) (m_sumUp : Int) (m_sumDown : Int) (Q : Int → (Int → Int) → Int → Prop) (hF : FQ X 0 0 (po_X8_middles X.cI X.cJ hX8 aX8_ups aX8_downs aX8_row m_found aX8_sumMany aX8_sumShares aX8_sumSet aX8_taken aX8_restUp aX8_restDown m_fewest m_wishes aX8_wished aX8_far aX8_queue m_divided aX8_divisors aX8_least m_pairOne m_pairTwo m_sumUp m_sumDown Q)) (K_6 : Int → (Int → Int) → Int → Int → Int → Prop) (hK_6 : ∀ (m_many : Int) (m_row : Int → Int) (m_isSpent : Int) (l5 : Int) (l7 : Int), r32 m_many → rr64 m_row → r32 m_isSpent → r64 l5 → r64 l7 → K_6 m_many m_row m_isSpent l5 l7 → Wat X 0 0 6 [(0, .ref hX8), (5, .long (i64 l5)), (7, .long (i64 l7))] [] [(hX8, .inr (7, [.ref aX8_ups, .ref aX8_downs, .int (i32 m_many), .ref aX8_row, .int (i32 m_isSpent), .int (i32 m_found), .ref aX8_sumMany, .ref aX8_sumShares, .ref aX8_sumSet, .ref aX8_taken, .ref aX8_restUp, .ref aX8_restDown, .int (i32 m_fewest), .int (i32 m_wishes), .ref aX8_wished, .ref aX8_far, .ref aX8_queue, .int (i32 m_divided), .ref aX8_divisors, .ref aX8_least, .long (i64 m_pairOne), .long (i64 m_pairTwo), .long (i64 m_sumUp), .long (i64 m_sumDown)])), (aX8_row, aL X.cJ 17 m_row)]) : ∀ (n : Nat) (m_many : Int) (m_row : Int → Int) (m_isSpent : Int) (l5 : Int) (l7 : Int) (l11 : Int) (l13 : Int) (l15 : Int) (l17 : Int), r32 m_many → rr64 m_row → r32 m_isSpent → r64 l5 → r64 l7 → r64 l11 → r64 l13 → r64 l15 → r64 l17 → wp_X8_middles_37 Q K_6 n m_many m_row m_isSpent l5 l7 l11 l13 l15 l17 → Wat X 0 0 37 [(0, .ref hX8), (5, .long (i64 l5)), (7, .long (i64 l7)), (11, .long (i64 l11)), (13, .long (i64 l13)), (15, .long (i64 l15)), (17, .long (i64 l17))] [] [(hX8, .inr (7, [.ref aX8_ups, .ref aX8_downs, .int (i32 m_many), .ref aX8_row, .int (i32 m_isSpent), .int (i32 m_found), .ref aX8_sumMany, .ref aX8_sumShares, .ref aX8_sumSet, .ref aX8_taken, .ref aX8_restUp, .ref aX8_restDown, .int (i32 m_fewest), .int (i32 m_wishes), .ref aX8_wished, .ref aX8_far, .ref aX8_queue, .int (i32 m_divided), .ref aX8_divisors, .ref aX8_least, .long (i64 m_pairOne), .long (i64 m_pairTwo), .long (i64 m_sumUp), .long (i64 m_sumDown)])), (aX8_row, aL X.cJ 17 m_row)] := by
  intro n
  induction n with
  | zero => intro m_many m_row m_isSpent l5 l7 l11 l13 l15 l17 r_m_many r_m_row r_m_isSpent r_l5 r_l7 r_l11 r_l13 r_l15 r_l17 h; exact False.elim h
  | succ n ih =>
    intro m_many m_row m_isSpent l5 l7 l11 l13 l15 l17 r_m_many r_m_row r_m_isSpent r_l5 r_l7 r_l11 r_l13 r_l15 r_l17 h
    rw [wp_X8_middles_37] at h
    refine q_lload g 13 4 rfl dX8_middles_37 ?_
    refine q_lconst g 0 0 rfl dX8_middles_39 ?_
    refine q_lcmp_eq g (49) 90 r_l13 (r64_lit _ (by decide)) (by decide) dX8_middles_40 dX8_middles_41 (fun b40 => ?_) (fun b40 => ?_)
    · replace h := h.1 b40
      refine q_lload g 15 5 rfl dX8_middles_90 ?_
      refine q_lload g 7 2 rfl dX8_middles_92 ?_
      obtain ⟨c94, h⟩ := h
      refine q_lrem g r_l15 r_l7 (ne_of_pos c94) dX8_middles_94 ?_
      refine q_lload g 7 2 rfl dX8_middles_95 ?_
      obtain ⟨c97, h⟩ := h
      refine q_ladd g dX8_middles_97 ?_
      refine q_lload g 7 2 rfl dX8_middles_98 ?_
      obtain ⟨c100, h⟩ := h
      refine q_lrem g c97 r_l7 (ne_of_pos c100) dX8_middles_100 ?_
      refine q_topl (r64_tmod c97 r_l7 (ne_of_pos c100)) (fun x101 ex101 rx101 => ?_)
      replace h := h x101 ex101
      refine q_lstore (lv' := [(9, .long (i64 x101)), (0, .ref hX8), (5, .long (i64 l5)), (7, .long (i64 l7)), (11, .long (i64 l11)), (13, .long (i64 l13)), (15, .long (i64 l15)), (17, .long (i64 l17))]) g 9   (by decide) rfl dX8_middles_101 ?_
      refine q_lload g 9 0 rfl dX8_middles_103 ?_
      refine q_lconst g 0 0 rfl dX8_middles_105 ?_
      refine q_lcmp_ne g (8) 115 rx101 (r64_lit _ (by decide)) (by decide) dX8_middles_106 dX8_middles_107 (fun b106 => ?_) (fun b106 => ?_)
      · replace h := h.1 b106
        refine q_lload g 9 0 rfl dX8_middles_115 ?_
        refine q_lv (lv' := [(0, .ref hX8), (5, .long (i64 l5)), (7, .long (i64 l7))]) [1, 2, 3] rfl ?_
        exact s_X8_middles_117 g hR hX8 aX8_ups aX8_downs aX8_row m_found aX8_sumMany aX8_sumShares aX8_sumSet aX8_taken aX8_restUp aX8_restDown m_fewest m_wishes aX8_wished aX8_far aX8_queue m_divided aX8_divisors aX8_least m_pairOne m_pairTwo m_sumUp m_sumDown Q hF K_6 hK_6 m_many m_row m_isSpent l5 l7 x101 r_m_many r_m_row r_m_isSpent r_l5 r_l7 rx101 h
      replace h := h.2 b106
      refine q_lload g 7 3 rfl dX8_middles_110 ?_
      refine q_goto g (5) 117 (by decide) dX8_middles_112 ?_
      refine q_lv (lv' := [(0, .ref hX8), (5, .long (i64 l5)), (7, .long (i64 l7))]) [1, 2, 3] rfl ?_
      exact s_X8_middles_117 g hR hX8 aX8_ups aX8_downs aX8_row m_found aX8_sumMany aX8_sumShares aX8_sumSet aX8_taken aX8_restUp aX8_restDown m_fewest m_wishes aX8_wished aX8_far aX8_queue m_divided aX8_divisors aX8_least m_pairOne m_pairTwo m_sumUp m_sumDown Q hF K_6 hK_6 m_many m_row m_isSpent l5 l7 l7 r_m_many r_m_row r_m_isSpent r_l5 r_l7 r_l7 h
    replace h := h.2 b40
    refine q_lload g 11 3 rfl dX8_middles_44 ?_
    refine q_lload g 13 4 rfl dX8_middles_46 ?_
    obtain ⟨c48, h⟩ := h
    refine q_ldiv g r_l11 r_l13 (ne_of_pos c48) dX8_middles_48 ?_
    refine q_topl (r64_tdiv r_l11 c48) (fun x49 ex49 rx49 => ?_)
    replace h := h x49 ex49
    refine q_lstore (lv' := [(19, .long (i64 x49)), (0, .ref hX8), (5, .long (i64 l5)), (7, .long (i64 l7)), (11, .long (i64 l11)), (13, .long (i64 l13)), (15, .long (i64 l15)), (17, .long (i64 l17))]) g 19   (by decide) rfl dX8_middles_49 ?_
    refine q_lload g 11 4 rfl dX8_middles_51 ?_
    refine q_lload g 19 0 rfl dX8_middles_53 ?_
    refine q_lload g 13 5 rfl dX8_middles_55 ?_
    obtain ⟨c57, h⟩ := h
    refine q_lmul g dX8_middles_57 ?_
    obtain ⟨c58, h⟩ := h
    refine q_lsub g dX8_middles_58 ?_
    refine q_topl c58 (fun x59 ex59 rx59 => ?_)
    replace h := h x59 ex59
    refine q_lstore (lv' := [(21, .long (i64 x59)), (19, .long (i64 x49)), (0, .ref hX8), (5, .long (i64 l5)), (7, .long (i64 l7)), (11, .long (i64 l11)), (13, .long (i64 l13)), (15, .long (i64 l15)), (17, .long (i64 l17))]) g 21   (by decide) rfl dX8_middles_59 ?_
    refine q_lload g 13 6 rfl dX8_middles_61 ?_
    refine q_lstore (lv' := [(11, .long (i64 l13)), (21, .long (i64 x59)), (19, .long (i64 x49)), (0, .ref hX8), (5, .long (i64 l5)), (7, .long (i64 l7)), (13, .long (i64 l13)), (15, .long (i64 l15)), (17, .long (i64 l17))]) g 11   (by decide) rfl dX8_middles_63 ?_
    refine q_lload g 21 1 rfl dX8_middles_65 ?_
    refine q_lstore (lv' := [(13, .long (i64 x59)), (11, .long (i64 l13)), (21, .long (i64 x59)), (19, .long (i64 x49)), (0, .ref hX8), (5, .long (i64 l5)), (7, .long (i64 l7)), (15, .long (i64 l15)), (17, .long (i64 l17))]) g 13   (by decide) rfl dX8_middles_67 ?_
    refine q_lload g 15 7 rfl dX8_middles_69 ?_
    refine q_lload g 19 3 rfl dX8_middles_71 ?_
    refine q_lload g 17 8 rfl dX8_middles_73 ?_
    obtain ⟨c75, h⟩ := h
    refine q_lmul g dX8_middles_75 ?_
    obtain ⟨c76, h⟩ := h
    refine q_lsub g dX8_middles_76 ?_
    refine q_topl c76 (fun x77 ex77 rx77 => ?_)
    replace h := h x77 ex77
    refine q_lstore (lv' := [(23, .long (i64 x77)), (13, .long (i64 x59)), (11, .long (i64 l13)), (21, .long (i64 x59)), (19, .long (i64 x49)), (0, .ref hX8), (5, .long (i64 l5)), (7, .long (i64 l7)), (15, .long (i64 l15)), (17, .long (i64 l17))]) g 23   (by decide) rfl dX8_middles_77 ?_
    refine q_lload g 17 9 rfl dX8_middles_79 ?_
    refine q_lstore (lv' := [(15, .long (i64 l17)), (23, .long (i64 x77)), (13, .long (i64 x59)), (11, .long (i64 l13)), (21, .long (i64 x59)), (19, .long (i64 x49)), (0, .ref hX8), (5, .long (i64 l5)), (7, .long (i64 l7)), (17, .long (i64 l17))]) g 15   (by decide) rfl dX8_middles_81 ?_
    refine q_lload g 23 1 rfl dX8_middles_83 ?_
    refine q_lstore (lv' := [(17, .long (i64 x77)), (15, .long (i64 l17)), (23, .long (i64 x77)), (13, .long (i64 x59)), (11, .long (i64 l13)), (21, .long (i64 x59)), (19, .long (i64 x49)), (0, .ref hX8), (5, .long (i64 l5)), (7, .long (i64 l7))]) g 17   (by decide) rfl dX8_middles_85 ?_
    refine q_goto g (-50) 37 (by decide) dX8_middles_87 ?_
    refine q_lv (lv' := [(0, .ref hX8), (5, .long (i64 l5)), (7, .long (i64 l7)), (11, .long (i64 l13)), (13, .long (i64 x59)), (15, .long (i64 l17)), (17, .long (i64 x77))]) [7, 8, 9, 4, 3, 1, 0] rfl ?_
    exact ih m_many m_row m_isSpent l5 l7 l13 x59 l17 x77 r_m_many r_m_row r_m_isSpent r_l5 r_l7 r_l13 rx59 r_l17 rx77 h
def wp_X8_middles_151 (Q : Int → (Int → Int) → Int → Prop) (m_many : Int) (m_row : Int → Int) (m_isSpent : Int) : Prop := Q m_many m_row m_isSpent
set_option maxHeartbeats 4000000 in
set_option maxRecDepth 100000 in
theorem s_X8_middles_151 {X : Cx} (g : Gd X cX8_middles RX8 none 25) (hR : X.R = rmL 2 0 0) (hX8 : Nat) (aX8_ups : Nat) (aX8_downs : Nat) (aX8_row : Nat) (m_found : Int) (aX8_sumMany : Nat) (aX8_sumShares : Nat) (aX8_sumSet : Nat) (aX8_taken : Nat) (aX8_restUp : Nat) (aX8_restDown : Nat) (m_fewest : Int) (m_wishes : Int) (aX8_wished : Nat) (aX8_far : Nat) (aX8_queue : Nat) (m_divided : Int) (aX8_divisors : Nat) (aX8_least : Nat) (m_pairOne : Int) (m_pairTwo : Int) (m_sumUp : Int) (m_sumDown : Int) (Q : Int → (Int → Int) → Int → Prop) (hF : FQ X 0 0 (po_X8_middles X.cI X.cJ hX8 aX8_ups aX8_downs aX8_row m_found aX8_sumMany aX8_sumShares aX8_sumSet aX8_taken aX8_restUp aX8_restDown m_fewest m_wishes aX8_wished aX8_far aX8_queue m_divided aX8_divisors aX8_least m_pairOne m_pairTwo m_sumUp m_sumDown Q)) : ∀ (m_many : Int) (m_row : Int → Int) (m_isSpent : Int), r32 m_many → rr64 m_row → r32 m_isSpent → wp_X8_middles_151 Q m_many m_row m_isSpent → Wat X 0 0 151 [] [] [(hX8, .inr (7, [.ref aX8_ups, .ref aX8_downs, .int (i32 m_many), .ref aX8_row, .int (i32 m_isSpent), .int (i32 m_found), .ref aX8_sumMany, .ref aX8_sumShares, .ref aX8_sumSet, .ref aX8_taken, .ref aX8_restUp, .ref aX8_restDown, .int (i32 m_fewest), .int (i32 m_wishes), .ref aX8_wished, .ref aX8_far, .ref aX8_queue, .int (i32 m_divided), .ref aX8_divisors, .ref aX8_least, .long (i64 m_pairOne), .long (i64 m_pairTwo), .long (i64 m_sumUp), .long (i64 m_sumDown)])), (aX8_row, aL X.cJ 17 m_row)] := by
  intro m_many m_row m_isSpent r_m_many r_m_row r_m_isSpent h
  rw [wp_X8_middles_151] at h
  exact q_vret g hF ⟨m_many, m_row, m_isSpent, rfl, rfl, r_m_many, r_m_row, r_m_isSpent, h⟩ dX8_middles_151
def wp_X8_middles_6 (Q : Int → (Int → Int) → Int → Prop) : Nat → Int → (Int → Int) → Int → Int → Int → Prop
  | 0, _, _, _, _, _ => False
  | n + 1, m_many, m_row, m_isSpent, l5, l7 => ((l5 ≤ 0 → wp_X8_middles_151 Q m_many m_row m_isSpent) ∧
  (¬ (l5 ≤ 0) → ((¬ m_isSpent = 0 → wp_X8_middles_151 Q m_many m_row m_isSpent) ∧
  (m_isSpent = 0 → (∃ n0 : Nat, wp_X8_middles_37 Q (wp_X8_middles_6 Q n) n0 m_many m_row m_isSpent l5 l7 l5 l7 1 0)))))
set_option maxHeartbeats 4000000 in
set_option maxRecDepth 100000 in
theorem s_X8_middles_6 {X : Cx} (g : Gd X cX8_middles RX8 none 25) (hR : X.R = rmL 2 0 0) (hX8 : Nat) (aX8_ups : Nat) (aX8_downs : Nat) (aX8_row : Nat) (m_found : Int) (aX8_sumMany : Nat) (aX8_sumShares : Nat) (aX8_sumSet : Nat) (aX8_taken : Nat) (aX8_restUp : Nat) (aX8_restDown : Nat) (m_fewest : Int) (m_wishes : Int) (aX8_wished : Nat) (aX8_far : Nat) (aX8_queue : Nat) (m_divided : Int) (aX8_divisors : Nat) (aX8_least : Nat) (m_pairOne : Int) (m_pairTwo : Int) (m_sumUp : Int) (m_sumDown : Int) (Q : Int → (Int → Int) → Int → Prop) (hF : FQ X 0 0 (po_X8_middles X.cI X.cJ hX8 aX8_ups aX8_downs aX8_row m_found aX8_sumMany aX8_sumShares aX8_sumSet aX8_taken aX8_restUp aX8_restDown m_fewest m_wishes aX8_wished aX8_far aX8_queue m_divided aX8_divisors aX8_least m_pairOne m_pairTwo m_sumUp m_sumDown Q)) : ∀ (n : Nat) (m_many : Int) (m_row : Int → Int) (m_isSpent : Int) (l5 : Int) (l7 : Int), r32 m_many → rr64 m_row → r32 m_isSpent → r64 l5 → r64 l7 → wp_X8_middles_6 Q n m_many m_row m_isSpent l5 l7 → Wat X 0 0 6 [(0, .ref hX8), (5, .long (i64 l5)), (7, .long (i64 l7))] [] [(hX8, .inr (7, [.ref aX8_ups, .ref aX8_downs, .int (i32 m_many), .ref aX8_row, .int (i32 m_isSpent), .int (i32 m_found), .ref aX8_sumMany, .ref aX8_sumShares, .ref aX8_sumSet, .ref aX8_taken, .ref aX8_restUp, .ref aX8_restDown, .int (i32 m_fewest), .int (i32 m_wishes), .ref aX8_wished, .ref aX8_far, .ref aX8_queue, .int (i32 m_divided), .ref aX8_divisors, .ref aX8_least, .long (i64 m_pairOne), .long (i64 m_pairTwo), .long (i64 m_sumUp), .long (i64 m_sumDown)])), (aX8_row, aL X.cJ 17 m_row)] := by
  intro n
  induction n with
  | zero => intro m_many m_row m_isSpent l5 l7 r_m_many r_m_row r_m_isSpent r_l5 r_l7 h; exact False.elim h
  | succ n ih =>
    intro m_many m_row m_isSpent l5 l7 r_m_many r_m_row r_m_isSpent r_l5 r_l7 h
    rw [wp_X8_middles_6] at h
    refine q_lload g 5 1 rfl dX8_middles_6 ?_
    refine q_lconst g 0 0 rfl dX8_middles_8 ?_
    refine q_lcmp_le g (141) 151 r_l5 (r64_lit _ (by decide)) (by decide) dX8_middles_9 dX8_middles_10 (fun b9 => ?_) (fun b9 => ?_)
    · replace h := h.1 b9
      refine q_lv (lv' := []) [] rfl ?_
      exact s_X8_middles_151 g hR hX8 aX8_ups aX8_downs aX8_row m_found aX8_sumMany aX8_sumShares aX8_sumSet aX8_taken aX8_restUp aX8_restDown m_fewest m_wishes aX8_wished aX8_far aX8_queue m_divided aX8_divisors aX8_least m_pairOne m_pairTwo m_sumUp m_sumDown Q hF m_many m_row m_isSpent r_m_many r_m_row r_m_isSpent h
    replace h := h.2 b9
    refine q_aload_n g 0 0 rfl dX8_middles_13 ?_
    refine q_get (C := RX8) (T := TX8) (N := 24) g 80 inX8 0 4 rfl rfl (by decide) wF_X8_80 rfl dX8_middles_14 ?_
    refine q_if_ne g (134) 151 r_m_isSpent (by decide) dX8_middles_17 (fun b17 => ?_) (fun b17 => ?_)
    · replace h := h.1 b17
      refine q_lv (lv' := []) [] rfl ?_
      exact s_X8_middles_151 g hR hX8 aX8_ups aX8_downs aX8_row m_found aX8_sumMany aX8_sumShares aX8_sumSet aX8_taken aX8_restUp aX8_restDown m_fewest m_wishes aX8_wished aX8_far aX8_queue m_divided aX8_divisors aX8_least m_pairOne m_pairTwo m_sumUp m_sumDown Q hF m_many m_row m_isSpent r_m_many r_m_row r_m_isSpent h
    replace h := h.2 b17
    refine q_lconst g 1 1 rfl dX8_middles_20 ?_
    refine q_lstore (lv' := [(9, .long (i64 1)), (0, .ref hX8), (5, .long (i64 l5)), (7, .long (i64 l7))]) g 9   (by decide) rfl dX8_middles_21 ?_
    refine q_lload g 5 2 rfl dX8_middles_23 ?_
    refine q_lstore (lv' := [(11, .long (i64 l5)), (9, .long (i64 1)), (0, .ref hX8), (5, .long (i64 l5)), (7, .long (i64 l7))]) g 11   (by decide) rfl dX8_middles_25 ?_
    refine q_lload g 7 4 rfl dX8_middles_27 ?_
    refine q_lstore (lv' := [(13, .long (i64 l7)), (11, .long (i64 l5)), (9, .long (i64 1)), (0, .ref hX8), (5, .long (i64 l5)), (7, .long (i64 l7))]) g 13   (by decide) rfl dX8_middles_29 ?_
    refine q_lconst g 1 1 rfl dX8_middles_31 ?_
    refine q_lstore (lv' := [(15, .long (i64 1)), (13, .long (i64 l7)), (11, .long (i64 l5)), (9, .long (i64 1)), (0, .ref hX8), (5, .long (i64 l5)), (7, .long (i64 l7))]) g 15   (by decide) rfl dX8_middles_32 ?_
    refine q_lconst g 0 0 rfl dX8_middles_34 ?_
    refine q_lstore (lv' := [(17, .long (i64 0)), (15, .long (i64 1)), (13, .long (i64 l7)), (11, .long (i64 l5)), (9, .long (i64 1)), (0, .ref hX8), (5, .long (i64 l5)), (7, .long (i64 l7))]) g 17   (by decide) rfl dX8_middles_35 ?_
    refine q_lv (lv' := [(0, .ref hX8), (5, .long (i64 l5)), (7, .long (i64 l7)), (11, .long (i64 l5)), (13, .long (i64 l7)), (15, .long (i64 1)), (17, .long (i64 0))]) [5, 6, 7, 3, 2, 1, 0] rfl ?_
    obtain ⟨n0, h⟩ := h
    exact s_X8_middles_37 g hR hX8 aX8_ups aX8_downs aX8_row m_found aX8_sumMany aX8_sumShares aX8_sumSet aX8_taken aX8_restUp aX8_restDown m_fewest m_wishes aX8_wished aX8_far aX8_queue m_divided aX8_divisors aX8_least m_pairOne m_pairTwo m_sumUp m_sumDown Q hF (wp_X8_middles_6 Q n) (fun v0 v1 v2 v3 v4 w0 w1 w2 w3 w4 hh => ih v0 v1 v2 v3 v4 w0 w1 w2 w3 w4 hh) n0 m_many m_row m_isSpent l5 l7 l5 l7 1 0 r_m_many r_m_row r_m_isSpent r_l5 r_l7 r_l5 r_l7 (r64_lit _ (by decide)) (r64_lit _ (by decide)) h
def wp_X8_middles (Q : Int → (Int → Int) → Int → Prop) (m_many : Int) (m_row : Int → Int) (m_isSpent : Int) (l1 : Int) (l3 : Int) : Prop := (∃ n0 : Nat, wp_X8_middles_6 Q n0 m_many m_row m_isSpent l1 l3)
set_option maxHeartbeats 4000000 in
set_option maxRecDepth 100000 in
theorem c_X8_middles (l : Launch) (D : va_G) (cI cJ : ClassId) (zt : Nat) (hX8 : Nat) (aX8_ups : Nat) (aX8_downs : Nat) (m_many : Int) (aX8_row : Nat) (m_isSpent : Int) (m_found : Int) (aX8_sumMany : Nat) (aX8_sumShares : Nat) (aX8_sumSet : Nat) (aX8_taken : Nat) (aX8_restUp : Nat) (aX8_restDown : Nat) (m_fewest : Int) (m_wishes : Int) (aX8_wished : Nat) (aX8_far : Nat) (aX8_queue : Nat) (m_divided : Int) (aX8_divisors : Nat) (aX8_least : Nat) (m_pairOne : Int) (m_pairTwo : Int) (m_sumUp : Int) (m_sumDown : Int) (m_row : Int → Int) (l1 : Int) (l3 : Int) (Q : Int → (Int → Int) → Int → Prop) (r_m_many : r32 m_many) (r_m_row : rr64 m_row) (r_m_isSpent : r32 m_isSpent) (r_l1 : r64 l1) (r_l3 : r64 l3) (h : wp_X8_middles Q m_many m_row m_isSpent l1 l3) : Ct l D cI cJ zt yX8_middles cX8_middles 25 none 2 0 0 [.ref hX8, .long (i64 l1), .long (i64 l3)] [(hX8, .inr (7, [.ref aX8_ups, .ref aX8_downs, .int (i32 m_many), .ref aX8_row, .int (i32 m_isSpent), .int (i32 m_found), .ref aX8_sumMany, .ref aX8_sumShares, .ref aX8_sumSet, .ref aX8_taken, .ref aX8_restUp, .ref aX8_restDown, .int (i32 m_fewest), .int (i32 m_wishes), .ref aX8_wished, .ref aX8_far, .ref aX8_queue, .int (i32 m_divided), .ref aX8_divisors, .ref aX8_least, .long (i64 m_pairOne), .long (i64 m_pairTwo), .long (i64 m_sumUp), .long (i64 m_sumDown)])), (aX8_row, aL cJ 17 m_row)] (po_X8_middles cI cJ hX8 aX8_ups aX8_downs aX8_row m_found aX8_sumMany aX8_sumShares aX8_sumSet aX8_taken aX8_restUp aX8_restDown m_fewest m_wishes aX8_wished aX8_far aX8_queue m_divided aX8_divisors aX8_least m_pairOne m_pairTwo m_sumUp m_sumDown Q) := by
  refine ct_of (by decide +kernel) (Nat.le_of_ble_eq_true rfl) (fun X hl hDD hcI hcJ hzt hR hF hnm g => ?_)
  subst hl; subst hDD; subst hcI; subst hcJ; subst hzt
  show Wat X 0 0 0 [(0, .ref hX8), (1, .long (i64 l1)), (3, .long (i64 l3))] [] [(hX8, .inr (7, [.ref aX8_ups, .ref aX8_downs, .int (i32 m_many), .ref aX8_row, .int (i32 m_isSpent), .int (i32 m_found), .ref aX8_sumMany, .ref aX8_sumShares, .ref aX8_sumSet, .ref aX8_taken, .ref aX8_restUp, .ref aX8_restDown, .int (i32 m_fewest), .int (i32 m_wishes), .ref aX8_wished, .ref aX8_far, .ref aX8_queue, .int (i32 m_divided), .ref aX8_divisors, .ref aX8_least, .long (i64 m_pairOne), .long (i64 m_pairTwo), .long (i64 m_sumUp), .long (i64 m_sumDown)])), (aX8_row, aL X.cJ 17 m_row)]
  replace g : Gd X cX8_middles RX8 none 25 := g
  rw [wp_X8_middles] at h
  refine q_lload_n g 1 1 rfl dX8_middles_0 ?_
  refine q_lstore (lv' := [(5, .long (i64 l1)), (0, .ref hX8), (1, .long (i64 l1)), (3, .long (i64 l3))]) g 5   (by decide) rfl dX8_middles_1 ?_
  refine q_lload_n g 3 3 rfl dX8_middles_3 ?_
  refine q_lstore (lv' := [(7, .long (i64 l3)), (5, .long (i64 l1)), (0, .ref hX8), (1, .long (i64 l1)), (3, .long (i64 l3))]) g 7   (by decide) rfl dX8_middles_4 ?_
  refine q_lv (lv' := [(0, .ref hX8), (5, .long (i64 l1)), (7, .long (i64 l3))]) [2, 1, 0] rfl ?_
  obtain ⟨n0, h⟩ := h
  exact s_X8_middles_6 g hR hX8 aX8_ups aX8_downs aX8_row m_found aX8_sumMany aX8_sumShares aX8_sumSet aX8_taken aX8_restUp aX8_restDown m_fewest m_wishes aX8_wished aX8_far aX8_queue m_divided aX8_divisors aX8_least m_pairOne m_pairTwo m_sumUp m_sumDown Q hF n0 m_many m_row m_isSpent l1 l3 r_m_many r_m_row r_m_isSpent r_l1 r_l3 h
theorem dX8_goRoad_0 : decode cX8_goRoad 0 = .ok (.lload_n 2, 1) := by decide +kernel
theorem dX8_goRoad_1 : decode cX8_goRoad 1 = .ok (.lconst 0, 1) := by decide +kernel
theorem dX8_goRoad_2 : decode cX8_goRoad 2 = .ok (.lcmp, 1) := by decide +kernel
theorem dX8_goRoad_3 : decode cX8_goRoad 3 = .ok (.ifCond .le 26, 3) := by decide +kernel
theorem dX8_goRoad_6 : decode cX8_goRoad 6 = .ok (.lload_n 2, 1) := by decide +kernel
theorem dX8_goRoad_7 : decode cX8_goRoad 7 = .ok (.lload 4, 2) := by decide +kernel
theorem dX8_goRoad_9 : decode cX8_goRoad 9 = .ok (.lcmp, 1) := by decide +kernel
theorem dX8_goRoad_10 : decode cX8_goRoad 10 = .ok (.ifCond .ge 19, 3) := by decide +kernel
theorem dX8_goRoad_13 : decode cX8_goRoad 13 = .ok (.iload_n 1, 1) := by decide +kernel
theorem dX8_goRoad_14 : decode cX8_goRoad 14 = .ok (.iconst 1, 1) := by decide +kernel
theorem dX8_goRoad_15 : decode cX8_goRoad 15 = .ok (.if_icmp .ne 17, 3) := by decide +kernel
theorem dX8_goRoad_18 : decode cX8_goRoad 18 = .ok (.lload 4, 2) := by decide +kernel
theorem dX8_goRoad_20 : decode cX8_goRoad 20 = .ok (.ldc2_w 89, 3) := by decide +kernel
theorem dX8_goRoad_23 : decode cX8_goRoad 23 = .ok (.lrem, 1) := by decide +kernel
theorem dX8_goRoad_24 : decode cX8_goRoad 24 = .ok (.lconst 0, 1) := by decide +kernel
theorem dX8_goRoad_25 : decode cX8_goRoad 25 = .ok (.lcmp, 1) := by decide +kernel
theorem dX8_goRoad_26 : decode cX8_goRoad 26 = .ok (.ifCond .ne 6, 3) := by decide +kernel
theorem dX8_goRoad_29 : decode cX8_goRoad 29 = .ok (.bipush (-2), 2) := by decide +kernel
theorem dX8_goRoad_31 : decode cX8_goRoad 31 = .ok (.ireturn, 1) := by decide +kernel
theorem dX8_goRoad_32 : decode cX8_goRoad 32 = .ok (.aload_n 0, 1) := by decide +kernel
theorem dX8_goRoad_33 : decode cX8_goRoad 33 = .ok (.iconst 0, 1) := by decide +kernel
theorem dX8_goRoad_34 : decode cX8_goRoad 34 = .ok (.putfield 84, 3) := by decide +kernel
theorem dX8_goRoad_37 : decode cX8_goRoad 37 = .ok (.aload_n 0, 1) := by decide +kernel
theorem dX8_goRoad_38 : decode cX8_goRoad 38 = .ok (.iconst 0, 1) := by decide +kernel
theorem dX8_goRoad_39 : decode cX8_goRoad 39 = .ok (.putfield 80, 3) := by decide +kernel
theorem dX8_goRoad_42 : decode cX8_goRoad 42 = .ok (.iload_n 1, 1) := by decide +kernel
theorem dX8_goRoad_43 : decode cX8_goRoad 43 = .ok (.iconst 2, 1) := by decide +kernel
theorem dX8_goRoad_44 : decode cX8_goRoad 44 = .ok (.if_icmp .ge 16, 3) := by decide +kernel
theorem dX8_goRoad_47 : decode cX8_goRoad 47 = .ok (.aload_n 0, 1) := by decide +kernel
theorem dX8_goRoad_48 : decode cX8_goRoad 48 = .ok (.lload_n 2, 1) := by decide +kernel
theorem dX8_goRoad_49 : decode cX8_goRoad 49 = .ok (.lload 4, 2) := by decide +kernel
theorem dX8_goRoad_51 : decode cX8_goRoad 51 = .ok (.iload_n 1, 1) := by decide +kernel
theorem dX8_goRoad_52 : decode cX8_goRoad 52 = .ok (.iconst 1, 1) := by decide +kernel
theorem dX8_goRoad_53 : decode cX8_goRoad 53 = .ok (.iadd, 1) := by decide +kernel
theorem dX8_goRoad_54 : decode cX8_goRoad 54 = .ok (.invokevirtual 107, 3) := by decide +kernel
theorem dX8_goRoad_57 : decode cX8_goRoad 57 = .ok (.goto 40, 3) := by decide +kernel
theorem dX8_goRoad_60 : decode cX8_goRoad 60 = .ok (.iload_n 1, 1) := by decide +kernel
theorem dX8_goRoad_61 : decode cX8_goRoad 61 = .ok (.iconst 2, 1) := by decide +kernel
theorem dX8_goRoad_62 : decode cX8_goRoad 62 = .ok (.if_icmp .ne 13, 3) := by decide +kernel
theorem dX8_goRoad_65 : decode cX8_goRoad 65 = .ok (.aload_n 0, 1) := by decide +kernel
theorem dX8_goRoad_66 : decode cX8_goRoad 66 = .ok (.lload_n 2, 1) := by decide +kernel
theorem dX8_goRoad_67 : decode cX8_goRoad 67 = .ok (.lload 4, 2) := by decide +kernel
theorem dX8_goRoad_69 : decode cX8_goRoad 69 = .ok (.invokevirtual 111, 3) := by decide +kernel
theorem dX8_goRoad_72 : decode cX8_goRoad 72 = .ok (.goto 25, 3) := by decide +kernel
theorem dX8_goRoad_75 : decode cX8_goRoad 75 = .ok (.iload_n 1, 1) := by decide +kernel
theorem dX8_goRoad_76 : decode cX8_goRoad 76 = .ok (.iconst 3, 1) := by decide +kernel
theorem dX8_goRoad_77 : decode cX8_goRoad 77 = .ok (.if_icmp .ne 13, 3) := by decide +kernel
theorem dX8_goRoad_80 : decode cX8_goRoad 80 = .ok (.aload_n 0, 1) := by decide +kernel
theorem dX8_goRoad_81 : decode cX8_goRoad 81 = .ok (.lload_n 2, 1) := by decide +kernel
theorem dX8_goRoad_82 : decode cX8_goRoad 82 = .ok (.lload 4, 2) := by decide +kernel
theorem dX8_goRoad_84 : decode cX8_goRoad 84 = .ok (.invokevirtual 115, 3) := by decide +kernel
theorem dX8_goRoad_87 : decode cX8_goRoad 87 = .ok (.goto 10, 3) := by decide +kernel
theorem dX8_goRoad_90 : decode cX8_goRoad 90 = .ok (.aload_n 0, 1) := by decide +kernel
theorem dX8_goRoad_91 : decode cX8_goRoad 91 = .ok (.lload_n 2, 1) := by decide +kernel
theorem dX8_goRoad_92 : decode cX8_goRoad 92 = .ok (.lload 4, 2) := by decide +kernel
theorem dX8_goRoad_94 : decode cX8_goRoad 94 = .ok (.invokevirtual 118, 3) := by decide +kernel
theorem dX8_goRoad_97 : decode cX8_goRoad 97 = .ok (.aload_n 0, 1) := by decide +kernel
theorem dX8_goRoad_98 : decode cX8_goRoad 98 = .ok (.invokevirtual 121, 3) := by decide +kernel
theorem dX8_goRoad_101 : decode cX8_goRoad 101 = .ok (.aload_n 0, 1) := by decide +kernel
theorem dX8_goRoad_102 : decode cX8_goRoad 102 = .ok (.getfield 80, 3) := by decide +kernel
theorem dX8_goRoad_105 : decode cX8_goRoad 105 = .ok (.ifCond .eq 8, 3) := by decide +kernel
theorem dX8_goRoad_108 : decode cX8_goRoad 108 = .ok (.bipush (-5), 2) := by decide +kernel
theorem dX8_goRoad_110 : decode cX8_goRoad 110 = .ok (.goto 7, 3) := by decide +kernel
theorem dX8_goRoad_113 : decode cX8_goRoad 113 = .ok (.aload_n 0, 1) := by decide +kernel
theorem dX8_goRoad_114 : decode cX8_goRoad 114 = .ok (.getfield 84, 3) := by decide +kernel
theorem dX8_goRoad_117 : decode cX8_goRoad 117 = .ok (.ireturn, 1) := by decide +kernel
abbrev po_X8_goRoad (cI cJ : ClassId) (hX8 : Nat) (aX8_ups : Nat) (aX8_downs : Nat) (aX8_row : Nat) (m_found : Int) (aX8_sumMany : Nat) (aX8_sumShares : Nat) (aX8_sumSet : Nat) (aX8_taken : Nat) (aX8_restUp : Nat) (aX8_restDown : Nat) (m_fewest : Int) (m_wishes : Int) (aX8_wished : Nat) (aX8_far : Nat) (aX8_queue : Nat) (m_divided : Int) (aX8_divisors : Nat) (aX8_least : Nat) (m_pairOne : Int) (m_pairTwo : Int) (m_sumUp : Int) (m_sumDown : Int) (Q : Int → Int → (Int → Int) → Int → Prop) : Option Value → va_W → Prop := fun rv w1 => ∃ (r0 : Int) (m_many : Int) (m_row : Int → Int) (m_isSpent : Int), rv = some (.int (i32 r0)) ∧ w1 = [(hX8, .inr (7, [.ref aX8_ups, .ref aX8_downs, .int (i32 m_many), .ref aX8_row, .int (i32 m_isSpent), .int (i32 m_found), .ref aX8_sumMany, .ref aX8_sumShares, .ref aX8_sumSet, .ref aX8_taken, .ref aX8_restUp, .ref aX8_restDown, .int (i32 m_fewest), .int (i32 m_wishes), .ref aX8_wished, .ref aX8_far, .ref aX8_queue, .int (i32 m_divided), .ref aX8_divisors, .ref aX8_least, .long (i64 m_pairOne), .long (i64 m_pairTwo), .long (i64 m_sumUp), .long (i64 m_sumDown)])), (aX8_row, aL cJ 17 m_row)] ∧ r32 r0 ∧ r32 m_many ∧ rr64 m_row ∧ r32 m_isSpent ∧ Q r0 m_many m_row m_isSpent
def wp_X8_goRoad_29 (Q : Int → Int → (Int → Int) → Int → Prop) (m_many : Int) (m_row : Int → Int) (m_isSpent : Int) : Prop := Q (-2) m_many m_row m_isSpent
set_option maxHeartbeats 4000000 in
set_option maxRecDepth 100000 in
theorem s_X8_goRoad_29 {X : Cx} (g : Gd X cX8_goRoad RX8 (some .int) 6) (hR : X.R = rmL 3 0 0) (hX8 : Nat) (aX8_ups : Nat) (aX8_downs : Nat) (aX8_row : Nat) (m_found : Int) (aX8_sumMany : Nat) (aX8_sumShares : Nat) (aX8_sumSet : Nat) (aX8_taken : Nat) (aX8_restUp : Nat) (aX8_restDown : Nat) (m_fewest : Int) (m_wishes : Int) (aX8_wished : Nat) (aX8_far : Nat) (aX8_queue : Nat) (m_divided : Int) (aX8_divisors : Nat) (aX8_least : Nat) (m_pairOne : Int) (m_pairTwo : Int) (m_sumUp : Int) (m_sumDown : Int) (Q : Int → Int → (Int → Int) → Int → Prop) (hF : FQ X 0 0 (po_X8_goRoad X.cI X.cJ hX8 aX8_ups aX8_downs aX8_row m_found aX8_sumMany aX8_sumShares aX8_sumSet aX8_taken aX8_restUp aX8_restDown m_fewest m_wishes aX8_wished aX8_far aX8_queue m_divided aX8_divisors aX8_least m_pairOne m_pairTwo m_sumUp m_sumDown Q)) : ∀ (m_many : Int) (m_row : Int → Int) (m_isSpent : Int), r32 m_many → rr64 m_row → r32 m_isSpent → wp_X8_goRoad_29 Q m_many m_row m_isSpent → Wat X 0 0 29 [] [] [(hX8, .inr (7, [.ref aX8_ups, .ref aX8_downs, .int (i32 m_many), .ref aX8_row, .int (i32 m_isSpent), .int (i32 m_found), .ref aX8_sumMany, .ref aX8_sumShares, .ref aX8_sumSet, .ref aX8_taken, .ref aX8_restUp, .ref aX8_restDown, .int (i32 m_fewest), .int (i32 m_wishes), .ref aX8_wished, .ref aX8_far, .ref aX8_queue, .int (i32 m_divided), .ref aX8_divisors, .ref aX8_least, .long (i64 m_pairOne), .long (i64 m_pairTwo), .long (i64 m_sumUp), .long (i64 m_sumDown)])), (aX8_row, aL X.cJ 17 m_row)] := by
  intro m_many m_row m_isSpent r_m_many r_m_row r_m_isSpent h
  rw [wp_X8_goRoad_29] at h
  refine q_bipush g (-2) (by decide) (by decide) dX8_goRoad_29 ?_
  exact q_iret g hF ⟨(-2), m_many, m_row, m_isSpent, rfl, rfl, (r32_lit _ (by decide)), r_m_many, r_m_row, r_m_isSpent, h⟩ dX8_goRoad_31
def wp_X8_goRoad_117 (Q : Int → Int → (Int → Int) → Int → Prop) (m_many : Int) (m_row : Int → Int) (m_isSpent : Int) (k0 : Int) : Prop := Q k0 m_many m_row m_isSpent
set_option maxHeartbeats 4000000 in
set_option maxRecDepth 100000 in
theorem s_X8_goRoad_117 {X : Cx} (g : Gd X cX8_goRoad RX8 (some .int) 6) (hR : X.R = rmL 3 0 0) (hX8 : Nat) (aX8_ups : Nat) (aX8_downs : Nat) (aX8_row : Nat) (m_found : Int) (aX8_sumMany : Nat) (aX8_sumShares : Nat) (aX8_sumSet : Nat) (aX8_taken : Nat) (aX8_restUp : Nat) (aX8_restDown : Nat) (m_fewest : Int) (m_wishes : Int) (aX8_wished : Nat) (aX8_far : Nat) (aX8_queue : Nat) (m_divided : Int) (aX8_divisors : Nat) (aX8_least : Nat) (m_pairOne : Int) (m_pairTwo : Int) (m_sumUp : Int) (m_sumDown : Int) (Q : Int → Int → (Int → Int) → Int → Prop) (hF : FQ X 0 0 (po_X8_goRoad X.cI X.cJ hX8 aX8_ups aX8_downs aX8_row m_found aX8_sumMany aX8_sumShares aX8_sumSet aX8_taken aX8_restUp aX8_restDown m_fewest m_wishes aX8_wished aX8_far aX8_queue m_divided aX8_divisors aX8_least m_pairOne m_pairTwo m_sumUp m_sumDown Q)) : ∀ (m_many : Int) (m_row : Int → Int) (m_isSpent : Int) (k0 : Int), r32 m_many → rr64 m_row → r32 m_isSpent → r32 k0 → wp_X8_goRoad_117 Q m_many m_row m_isSpent k0 → Wat X 0 0 117 [] [.int (i32 k0)] [(hX8, .inr (7, [.ref aX8_ups, .ref aX8_downs, .int (i32 m_many), .ref aX8_row, .int (i32 m_isSpent), .int (i32 m_found), .ref aX8_sumMany, .ref aX8_sumShares, .ref aX8_sumSet, .ref aX8_taken, .ref aX8_restUp, .ref aX8_restDown, .int (i32 m_fewest), .int (i32 m_wishes), .ref aX8_wished, .ref aX8_far, .ref aX8_queue, .int (i32 m_divided), .ref aX8_divisors, .ref aX8_least, .long (i64 m_pairOne), .long (i64 m_pairTwo), .long (i64 m_sumUp), .long (i64 m_sumDown)])), (aX8_row, aL X.cJ 17 m_row)] := by
  intro m_many m_row m_isSpent k0 r_m_many r_m_row r_m_isSpent r_k0 h
  rw [wp_X8_goRoad_117] at h
  exact q_iret g hF ⟨k0, m_many, m_row, m_isSpent, rfl, rfl, r_k0, r_m_many, r_m_row, r_m_isSpent, h⟩ dX8_goRoad_117
def wp_X8_goRoad_97 (Q : Int → Int → (Int → Int) → Int → Prop) (m_many : Int) (m_row : Int → Int) (m_isSpent : Int) : Prop := wp_X8_sort (fun (m_row_98 : Int → Int) => ((m_isSpent = 0 → wp_X8_goRoad_117 Q m_many m_row_98 m_isSpent m_many) ∧
  (¬ (m_isSpent = 0) → wp_X8_goRoad_117 Q m_many m_row_98 m_isSpent (-5)))) m_many m_row
set_option maxHeartbeats 4000000 in
set_option maxRecDepth 100000 in
theorem s_X8_goRoad_97 {X : Cx} (g : Gd X cX8_goRoad RX8 (some .int) 6) (hR : X.R = rmL 3 0 0) (hX8 : Nat) (aX8_ups : Nat) (aX8_downs : Nat) (aX8_row : Nat) (m_found : Int) (aX8_sumMany : Nat) (aX8_sumShares : Nat) (aX8_sumSet : Nat) (aX8_taken : Nat) (aX8_restUp : Nat) (aX8_restDown : Nat) (m_fewest : Int) (m_wishes : Int) (aX8_wished : Nat) (aX8_far : Nat) (aX8_queue : Nat) (m_divided : Int) (aX8_divisors : Nat) (aX8_least : Nat) (m_pairOne : Int) (m_pairTwo : Int) (m_sumUp : Int) (m_sumDown : Int) (Q : Int → Int → (Int → Int) → Int → Prop) (hF : FQ X 0 0 (po_X8_goRoad X.cI X.cJ hX8 aX8_ups aX8_downs aX8_row m_found aX8_sumMany aX8_sumShares aX8_sumSet aX8_taken aX8_restUp aX8_restDown m_fewest m_wishes aX8_wished aX8_far aX8_queue m_divided aX8_divisors aX8_least m_pairOne m_pairTwo m_sumUp m_sumDown Q)) : ∀ (m_many : Int) (m_row : Int → Int) (m_isSpent : Int), r32 m_many → rr64 m_row → r32 m_isSpent → wp_X8_goRoad_97 Q m_many m_row m_isSpent → Wat X 0 0 97 [(0, .ref hX8)] [] [(hX8, .inr (7, [.ref aX8_ups, .ref aX8_downs, .int (i32 m_many), .ref aX8_row, .int (i32 m_isSpent), .int (i32 m_found), .ref aX8_sumMany, .ref aX8_sumShares, .ref aX8_sumSet, .ref aX8_taken, .ref aX8_restUp, .ref aX8_restDown, .int (i32 m_fewest), .int (i32 m_wishes), .ref aX8_wished, .ref aX8_far, .ref aX8_queue, .int (i32 m_divided), .ref aX8_divisors, .ref aX8_least, .long (i64 m_pairOne), .long (i64 m_pairTwo), .long (i64 m_sumUp), .long (i64 m_sumDown)])), (aX8_row, aL X.cJ 17 m_row)] := by
  intro m_many m_row m_isSpent r_m_many r_m_row r_m_isSpent h
  rw [wp_X8_goRoad_97] at h
  refine q_aload_n g 0 0 rfl dX8_goRoad_97 ?_
  refine q_callV (lev := 1) (mc := 0) (ms := 0) g 121 (c_X8_sort X.l X.D X.cI X.cJ X.zt hX8 aX8_ups aX8_downs m_many aX8_row m_isSpent m_found aX8_sumMany aX8_sumShares aX8_sumSet aX8_taken aX8_restUp aX8_restDown m_fewest m_wishes aX8_wished aX8_far aX8_queue m_divided aX8_divisors aX8_least m_pairOne m_pairTwo m_sumUp m_sumDown m_row _ r_m_many r_m_row h) (wr := []) [0, 1] [] rfl rfl rfl (by decide) (by decide) (by decide) (ci := 7) rfl rfl rfl wM_X8_121 wI_X8_sort wS_X8_sort wZ_X8 wC_X8_sort 0 rfl (by decide +kernel) (by rw [hR]; exact ⟨by show 1 + 1 ≤ 3; omega, by show 8 + (5 + 11) + 100 * 1 ≤ 100 * 3; omega⟩) (by rw [hR]; exact ⟨Nat.le_refl _, Nat.le_refl _⟩) (Nat.le_of_ble_eq_true rfl) rfl dX8_goRoad_98 (fun rv w1 hq => ?_)
  obtain ⟨m_row_98, rfl, rfl, rm_row_98, h⟩ := hq
  show Wat X 0 0 101 [(0, .ref hX8)] [] [(hX8, .inr (7, [.ref aX8_ups, .ref aX8_downs, .int (i32 m_many), .ref aX8_row, .int (i32 m_isSpent), .int (i32 m_found), .ref aX8_sumMany, .ref aX8_sumShares, .ref aX8_sumSet, .ref aX8_taken, .ref aX8_restUp, .ref aX8_restDown, .int (i32 m_fewest), .int (i32 m_wishes), .ref aX8_wished, .ref aX8_far, .ref aX8_queue, .int (i32 m_divided), .ref aX8_divisors, .ref aX8_least, .long (i64 m_pairOne), .long (i64 m_pairTwo), .long (i64 m_sumUp), .long (i64 m_sumDown)])), (aX8_row, aL X.cJ 17 m_row_98)]
  refine q_aload_n g 0 0 rfl dX8_goRoad_101 ?_
  refine q_get (C := RX8) (T := TX8) (N := 24) g 80 inX8 0 4 rfl rfl (by decide) wF_X8_80 rfl dX8_goRoad_102 ?_
  refine q_if_eq g (8) 113 r_m_isSpent (by decide) dX8_goRoad_105 (fun b105 => ?_) (fun b105 => ?_)
  · replace h := h.1 b105
    refine q_aload_n g 0 0 rfl dX8_goRoad_113 ?_
    refine q_get (C := RX8) (T := TX8) (N := 24) g 84 inX8 0 2 rfl rfl (by decide) wF_X8_84 rfl dX8_goRoad_114 ?_
    refine q_lv (lv' := []) [] rfl ?_
    exact s_X8_goRoad_117 g hR hX8 aX8_ups aX8_downs aX8_row m_found aX8_sumMany aX8_sumShares aX8_sumSet aX8_taken aX8_restUp aX8_restDown m_fewest m_wishes aX8_wished aX8_far aX8_queue m_divided aX8_divisors aX8_least m_pairOne m_pairTwo m_sumUp m_sumDown Q hF m_many m_row_98 m_isSpent m_many r_m_many rm_row_98 r_m_isSpent r_m_many h
  replace h := h.2 b105
  refine q_bipush g (-5) (by decide) (by decide) dX8_goRoad_108 ?_
  refine q_goto g (7) 117 (by decide) dX8_goRoad_110 ?_
  refine q_lv (lv' := []) [] rfl ?_
  exact s_X8_goRoad_117 g hR hX8 aX8_ups aX8_downs aX8_row m_found aX8_sumMany aX8_sumShares aX8_sumSet aX8_taken aX8_restUp aX8_restDown m_fewest m_wishes aX8_wished aX8_far aX8_queue m_divided aX8_divisors aX8_least m_pairOne m_pairTwo m_sumUp m_sumDown Q hF m_many m_row_98 m_isSpent (-5) r_m_many rm_row_98 r_m_isSpent (r32_lit _ (by decide)) h
def wp_X8_goRoad_32 (Q : Int → Int → (Int → Int) → Int → Prop) (m_many : Int) (m_row : Int → Int) (m_isSpent : Int) (l1 : Int) (l2 : Int) (l4 : Int) : Prop := ((2 ≤ l1 → ((¬ l1 = 2 → ((¬ l1 = 3 → wp_X8_factors (fun (m_many_94 : Int) (m_row_94 : Int → Int) (m_isSpent_94 : Int) => wp_X8_goRoad_97 Q m_many_94 m_row_94 m_isSpent_94) 0 m_row 0 l2 l4) ∧
  (l1 = 3 → wp_X8_middles (fun (m_many_84 : Int) (m_row_84 : Int → Int) (m_isSpent_84 : Int) => wp_X8_goRoad_97 Q m_many_84 m_row_84 m_isSpent_84) 0 m_row 0 l2 l4))) ∧
  (l1 = 2 → wp_X8_cutUp (fun (m_many_69 : Int) (m_row_69 : Int → Int) (m_isSpent_69 : Int) => wp_X8_goRoad_97 Q m_many_69 m_row_69 m_isSpent_69) 0 m_row 0 l2 l4))) ∧
  (¬ (2 ≤ l1) → (r32 (l1 + 1) ∧ wp_X8_greed (fun (m_many_54 : Int) (m_row_54 : Int → Int) (m_isSpent_54 : Int) => wp_X8_goRoad_97 Q m_many_54 m_row_54 m_isSpent_54) 0 m_row 0 l2 l4 (l1 + 1))))
set_option maxHeartbeats 4000000 in
set_option maxRecDepth 100000 in
theorem s_X8_goRoad_32 {X : Cx} (g : Gd X cX8_goRoad RX8 (some .int) 6) (hR : X.R = rmL 3 0 0) (hX8 : Nat) (aX8_ups : Nat) (aX8_downs : Nat) (aX8_row : Nat) (m_found : Int) (aX8_sumMany : Nat) (aX8_sumShares : Nat) (aX8_sumSet : Nat) (aX8_taken : Nat) (aX8_restUp : Nat) (aX8_restDown : Nat) (m_fewest : Int) (m_wishes : Int) (aX8_wished : Nat) (aX8_far : Nat) (aX8_queue : Nat) (m_divided : Int) (aX8_divisors : Nat) (aX8_least : Nat) (m_pairOne : Int) (m_pairTwo : Int) (m_sumUp : Int) (m_sumDown : Int) (Q : Int → Int → (Int → Int) → Int → Prop) (hF : FQ X 0 0 (po_X8_goRoad X.cI X.cJ hX8 aX8_ups aX8_downs aX8_row m_found aX8_sumMany aX8_sumShares aX8_sumSet aX8_taken aX8_restUp aX8_restDown m_fewest m_wishes aX8_wished aX8_far aX8_queue m_divided aX8_divisors aX8_least m_pairOne m_pairTwo m_sumUp m_sumDown Q)) : ∀ (m_many : Int) (m_row : Int → Int) (m_isSpent : Int) (l1 : Int) (l2 : Int) (l4 : Int), r32 m_many → rr64 m_row → r32 m_isSpent → r32 l1 → r64 l2 → r64 l4 → wp_X8_goRoad_32 Q m_many m_row m_isSpent l1 l2 l4 → Wat X 0 0 32 [(0, .ref hX8), (1, .int (i32 l1)), (2, .long (i64 l2)), (4, .long (i64 l4))] [] [(hX8, .inr (7, [.ref aX8_ups, .ref aX8_downs, .int (i32 m_many), .ref aX8_row, .int (i32 m_isSpent), .int (i32 m_found), .ref aX8_sumMany, .ref aX8_sumShares, .ref aX8_sumSet, .ref aX8_taken, .ref aX8_restUp, .ref aX8_restDown, .int (i32 m_fewest), .int (i32 m_wishes), .ref aX8_wished, .ref aX8_far, .ref aX8_queue, .int (i32 m_divided), .ref aX8_divisors, .ref aX8_least, .long (i64 m_pairOne), .long (i64 m_pairTwo), .long (i64 m_sumUp), .long (i64 m_sumDown)])), (aX8_row, aL X.cJ 17 m_row)] := by
  intro m_many m_row m_isSpent l1 l2 l4 r_m_many r_m_row r_m_isSpent r_l1 r_l2 r_l4 h
  rw [wp_X8_goRoad_32] at h
  refine q_aload_n g 0 0 rfl dX8_goRoad_32 ?_
  refine q_iconst g (0) dX8_goRoad_33 ?_
  refine q_put (C := RX8) (T := TX8) (N := 24) (ty := .int) (ws' := [(hX8, .inr (7, [.ref aX8_ups, .ref aX8_downs, .int (i32 0), .ref aX8_row, .int (i32 m_isSpent), .int (i32 m_found), .ref aX8_sumMany, .ref aX8_sumShares, .ref aX8_sumSet, .ref aX8_taken, .ref aX8_restUp, .ref aX8_restDown, .int (i32 m_fewest), .int (i32 m_wishes), .ref aX8_wished, .ref aX8_far, .ref aX8_queue, .int (i32 m_divided), .ref aX8_divisors, .ref aX8_least, .long (i64 m_pairOne), .long (i64 m_pairTwo), .long (i64 m_sumUp), .long (i64 m_sumDown)])), (aX8_row, aL X.cJ 17 m_row)]) g 84 inX8 tyX8_ok nmX8 0 2 rfl rfl (by decide) wF_X8_84 rfl rfl rfl rfl (Nat.le_of_ble_eq_true rfl) rfl dX8_goRoad_34 ?_
  refine q_aload_n g 0 0 rfl dX8_goRoad_37 ?_
  refine q_iconst g (0) dX8_goRoad_38 ?_
  refine q_put (C := RX8) (T := TX8) (N := 24) (ty := .boolean) (ws' := [(hX8, .inr (7, [.ref aX8_ups, .ref aX8_downs, .int (i32 0), .ref aX8_row, .int (i32 0), .int (i32 m_found), .ref aX8_sumMany, .ref aX8_sumShares, .ref aX8_sumSet, .ref aX8_taken, .ref aX8_restUp, .ref aX8_restDown, .int (i32 m_fewest), .int (i32 m_wishes), .ref aX8_wished, .ref aX8_far, .ref aX8_queue, .int (i32 m_divided), .ref aX8_divisors, .ref aX8_least, .long (i64 m_pairOne), .long (i64 m_pairTwo), .long (i64 m_sumUp), .long (i64 m_sumDown)])), (aX8_row, aL X.cJ 17 m_row)]) g 80 inX8 tyX8_ok nmX8 0 4 rfl rfl (by decide) wF_X8_80 rfl rfl (zb_n (by decide)) (zb_f (by decide)) (Nat.le_of_ble_eq_true rfl) rfl dX8_goRoad_39 ?_
  refine q_iload_n g 1 1 rfl dX8_goRoad_42 ?_
  refine q_iconst g (2) dX8_goRoad_43 ?_
  refine q_icmp_ge g (16) 60 r_l1 (r32_lit _ (by decide)) (by decide) dX8_goRoad_44 (fun b44 => ?_) (fun b44 => ?_)
  · replace h := h.1 b44
    refine q_iload_n g 1 1 rfl dX8_goRoad_60 ?_
    refine q_iconst g (2) dX8_goRoad_61 ?_
    refine q_icmp_ne g (13) 75 r_l1 (r32_lit _ (by decide)) (by decide) dX8_goRoad_62 (fun b62 => ?_) (fun b62 => ?_)
    · replace h := h.1 b62
      refine q_iload_n g 1 1 rfl dX8_goRoad_75 ?_
      refine q_iconst g (3) dX8_goRoad_76 ?_
      refine q_icmp_ne g (13) 90 r_l1 (r32_lit _ (by decide)) (by decide) dX8_goRoad_77 (fun b77 => ?_) (fun b77 => ?_)
      · replace h := h.1 b77
        refine q_aload_n g 0 0 rfl dX8_goRoad_90 ?_
        refine q_lload_n g 2 2 rfl dX8_goRoad_91 ?_
        refine q_lload g 4 3 rfl dX8_goRoad_92 ?_
        refine q_callV (lev := 2) (mc := 0) (ms := 0) g 118 (c_X8_factors X.l X.D X.cI X.cJ X.zt hX8 aX8_ups aX8_downs 0 aX8_row 0 m_found aX8_sumMany aX8_sumShares aX8_sumSet aX8_taken aX8_restUp aX8_restDown m_fewest m_wishes aX8_wished aX8_far aX8_queue m_divided aX8_divisors aX8_least m_pairOne m_pairTwo m_sumUp m_sumDown m_row l2 l4 _ (r32_lit _ (by decide)) r_m_row (r32_lit _ (by decide)) r_l2 r_l4 h) (wr := []) [0, 1] [] rfl rfl rfl (by decide) (by decide) (by decide) (ci := 7) rfl rfl rfl wM_X8_118 wI_X8_factors wS_X8_factors wZ_X8 wC_X8_factors 2 rfl (by decide +kernel) (by rw [hR]; exact ⟨by show 2 + 1 ≤ 3; omega, by show 8 + (11 + 11) + 100 * 2 ≤ 100 * 3; omega⟩) (by rw [hR]; exact ⟨Nat.le_refl _, Nat.le_refl _⟩) (Nat.le_of_ble_eq_true rfl) rfl dX8_goRoad_94 (fun rv w1 hq => ?_)
        obtain ⟨m_many_94, m_row_94, m_isSpent_94, rfl, rfl, rm_many_94, rm_row_94, rm_isSpent_94, h⟩ := hq
        show Wat X 0 0 97 [(0, .ref hX8), (1, .int (i32 l1)), (2, .long (i64 l2)), (4, .long (i64 l4))] [] [(hX8, .inr (7, [.ref aX8_ups, .ref aX8_downs, .int (i32 m_many_94), .ref aX8_row, .int (i32 m_isSpent_94), .int (i32 m_found), .ref aX8_sumMany, .ref aX8_sumShares, .ref aX8_sumSet, .ref aX8_taken, .ref aX8_restUp, .ref aX8_restDown, .int (i32 m_fewest), .int (i32 m_wishes), .ref aX8_wished, .ref aX8_far, .ref aX8_queue, .int (i32 m_divided), .ref aX8_divisors, .ref aX8_least, .long (i64 m_pairOne), .long (i64 m_pairTwo), .long (i64 m_sumUp), .long (i64 m_sumDown)])), (aX8_row, aL X.cJ 17 m_row_94)]
        refine q_lv (lv' := [(0, .ref hX8)]) [0] rfl ?_
        exact s_X8_goRoad_97 g hR hX8 aX8_ups aX8_downs aX8_row m_found aX8_sumMany aX8_sumShares aX8_sumSet aX8_taken aX8_restUp aX8_restDown m_fewest m_wishes aX8_wished aX8_far aX8_queue m_divided aX8_divisors aX8_least m_pairOne m_pairTwo m_sumUp m_sumDown Q hF m_many_94 m_row_94 m_isSpent_94 rm_many_94 rm_row_94 rm_isSpent_94 h
      replace h := h.2 b77
      refine q_aload_n g 0 0 rfl dX8_goRoad_80 ?_
      refine q_lload_n g 2 2 rfl dX8_goRoad_81 ?_
      refine q_lload g 4 3 rfl dX8_goRoad_82 ?_
      refine q_callV (lev := 2) (mc := 0) (ms := 0) g 115 (c_X8_middles X.l X.D X.cI X.cJ X.zt hX8 aX8_ups aX8_downs 0 aX8_row 0 m_found aX8_sumMany aX8_sumShares aX8_sumSet aX8_taken aX8_restUp aX8_restDown m_fewest m_wishes aX8_wished aX8_far aX8_queue m_divided aX8_divisors aX8_least m_pairOne m_pairTwo m_sumUp m_sumDown m_row l2 l4 _ (r32_lit _ (by decide)) r_m_row (r32_lit _ (by decide)) r_l2 r_l4 h) (wr := []) [0, 1] [] rfl rfl rfl (by decide) (by decide) (by decide) (ci := 7) rfl rfl rfl wM_X8_115 wI_X8_middles wS_X8_middles wZ_X8 wC_X8_middles 2 rfl (by decide +kernel) (by rw [hR]; exact ⟨by show 2 + 1 ≤ 3; omega, by show 8 + (25 + 11) + 100 * 2 ≤ 100 * 3; omega⟩) (by rw [hR]; exact ⟨Nat.le_refl _, Nat.le_refl _⟩) (Nat.le_of_ble_eq_true rfl) rfl dX8_goRoad_84 (fun rv w1 hq => ?_)
      obtain ⟨m_many_84, m_row_84, m_isSpent_84, rfl, rfl, rm_many_84, rm_row_84, rm_isSpent_84, h⟩ := hq
      show Wat X 0 0 87 [(0, .ref hX8), (1, .int (i32 l1)), (2, .long (i64 l2)), (4, .long (i64 l4))] [] [(hX8, .inr (7, [.ref aX8_ups, .ref aX8_downs, .int (i32 m_many_84), .ref aX8_row, .int (i32 m_isSpent_84), .int (i32 m_found), .ref aX8_sumMany, .ref aX8_sumShares, .ref aX8_sumSet, .ref aX8_taken, .ref aX8_restUp, .ref aX8_restDown, .int (i32 m_fewest), .int (i32 m_wishes), .ref aX8_wished, .ref aX8_far, .ref aX8_queue, .int (i32 m_divided), .ref aX8_divisors, .ref aX8_least, .long (i64 m_pairOne), .long (i64 m_pairTwo), .long (i64 m_sumUp), .long (i64 m_sumDown)])), (aX8_row, aL X.cJ 17 m_row_84)]
      refine q_goto g (10) 97 (by decide) dX8_goRoad_87 ?_
      refine q_lv (lv' := [(0, .ref hX8)]) [0] rfl ?_
      exact s_X8_goRoad_97 g hR hX8 aX8_ups aX8_downs aX8_row m_found aX8_sumMany aX8_sumShares aX8_sumSet aX8_taken aX8_restUp aX8_restDown m_fewest m_wishes aX8_wished aX8_far aX8_queue m_divided aX8_divisors aX8_least m_pairOne m_pairTwo m_sumUp m_sumDown Q hF m_many_84 m_row_84 m_isSpent_84 rm_many_84 rm_row_84 rm_isSpent_84 h
    replace h := h.2 b62
    refine q_aload_n g 0 0 rfl dX8_goRoad_65 ?_
    refine q_lload_n g 2 2 rfl dX8_goRoad_66 ?_
    refine q_lload g 4 3 rfl dX8_goRoad_67 ?_
    refine q_callV (lev := 2) (mc := 0) (ms := 0) g 111 (c_X8_cutUp X.l X.D X.cI X.cJ X.zt hX8 aX8_ups aX8_downs 0 aX8_row 0 m_found aX8_sumMany aX8_sumShares aX8_sumSet aX8_taken aX8_restUp aX8_restDown m_fewest m_wishes aX8_wished aX8_far aX8_queue m_divided aX8_divisors aX8_least m_pairOne m_pairTwo m_sumUp m_sumDown m_row l2 l4 _ (r32_lit _ (by decide)) r_m_row (r32_lit _ (by decide)) r_l2 r_l4 h) (wr := []) [0, 1] [] rfl rfl rfl (by decide) (by decide) (by decide) (ci := 7) rfl rfl rfl wM_X8_111 wI_X8_cutUp wS_X8_cutUp wZ_X8 wC_X8_cutUp 2 rfl (by decide +kernel) (by rw [hR]; exact ⟨by show 2 + 1 ≤ 3; omega, by show 8 + (8 + 11) + 100 * 2 ≤ 100 * 3; omega⟩) (by rw [hR]; exact ⟨Nat.le_refl _, Nat.le_refl _⟩) (Nat.le_of_ble_eq_true rfl) rfl dX8_goRoad_69 (fun rv w1 hq => ?_)
    obtain ⟨m_many_69, m_row_69, m_isSpent_69, rfl, rfl, rm_many_69, rm_row_69, rm_isSpent_69, h⟩ := hq
    show Wat X 0 0 72 [(0, .ref hX8), (1, .int (i32 l1)), (2, .long (i64 l2)), (4, .long (i64 l4))] [] [(hX8, .inr (7, [.ref aX8_ups, .ref aX8_downs, .int (i32 m_many_69), .ref aX8_row, .int (i32 m_isSpent_69), .int (i32 m_found), .ref aX8_sumMany, .ref aX8_sumShares, .ref aX8_sumSet, .ref aX8_taken, .ref aX8_restUp, .ref aX8_restDown, .int (i32 m_fewest), .int (i32 m_wishes), .ref aX8_wished, .ref aX8_far, .ref aX8_queue, .int (i32 m_divided), .ref aX8_divisors, .ref aX8_least, .long (i64 m_pairOne), .long (i64 m_pairTwo), .long (i64 m_sumUp), .long (i64 m_sumDown)])), (aX8_row, aL X.cJ 17 m_row_69)]
    refine q_goto g (25) 97 (by decide) dX8_goRoad_72 ?_
    refine q_lv (lv' := [(0, .ref hX8)]) [0] rfl ?_
    exact s_X8_goRoad_97 g hR hX8 aX8_ups aX8_downs aX8_row m_found aX8_sumMany aX8_sumShares aX8_sumSet aX8_taken aX8_restUp aX8_restDown m_fewest m_wishes aX8_wished aX8_far aX8_queue m_divided aX8_divisors aX8_least m_pairOne m_pairTwo m_sumUp m_sumDown Q hF m_many_69 m_row_69 m_isSpent_69 rm_many_69 rm_row_69 rm_isSpent_69 h
  replace h := h.2 b44
  refine q_aload_n g 0 0 rfl dX8_goRoad_47 ?_
  refine q_lload_n g 2 2 rfl dX8_goRoad_48 ?_
  refine q_lload g 4 3 rfl dX8_goRoad_49 ?_
  refine q_iload_n g 1 1 rfl dX8_goRoad_51 ?_
  refine q_iconst g (1) dX8_goRoad_52 ?_
  obtain ⟨c53, h⟩ := h
  refine q_iadd g dX8_goRoad_53 ?_
  refine q_callV (lev := 2) (mc := 0) (ms := 0) g 107 (c_X8_greed X.l X.D X.cI X.cJ X.zt hX8 aX8_ups aX8_downs 0 aX8_row 0 m_found aX8_sumMany aX8_sumShares aX8_sumSet aX8_taken aX8_restUp aX8_restDown m_fewest m_wishes aX8_wished aX8_far aX8_queue m_divided aX8_divisors aX8_least m_pairOne m_pairTwo m_sumUp m_sumDown m_row l2 l4 (l1 + 1) _ (r32_lit _ (by decide)) r_m_row (r32_lit _ (by decide)) r_l2 r_l4 c53 h) (wr := []) [0, 1] [] rfl rfl rfl (by decide) (by decide) (by decide) (ci := 7) rfl rfl rfl wM_X8_107 wI_X8_greed wS_X8_greed wZ_X8 wC_X8_greed 3 rfl (by decide +kernel) (by rw [hR]; exact ⟨by show 2 + 1 ≤ 3; omega, by show 8 + (16 + 11) + 100 * 2 ≤ 100 * 3; omega⟩) (by rw [hR]; exact ⟨Nat.le_refl _, Nat.le_refl _⟩) (Nat.le_of_ble_eq_true rfl) rfl dX8_goRoad_54 (fun rv w1 hq => ?_)
  obtain ⟨m_many_54, m_row_54, m_isSpent_54, rfl, rfl, rm_many_54, rm_row_54, rm_isSpent_54, h⟩ := hq
  show Wat X 0 0 57 [(0, .ref hX8), (1, .int (i32 l1)), (2, .long (i64 l2)), (4, .long (i64 l4))] [] [(hX8, .inr (7, [.ref aX8_ups, .ref aX8_downs, .int (i32 m_many_54), .ref aX8_row, .int (i32 m_isSpent_54), .int (i32 m_found), .ref aX8_sumMany, .ref aX8_sumShares, .ref aX8_sumSet, .ref aX8_taken, .ref aX8_restUp, .ref aX8_restDown, .int (i32 m_fewest), .int (i32 m_wishes), .ref aX8_wished, .ref aX8_far, .ref aX8_queue, .int (i32 m_divided), .ref aX8_divisors, .ref aX8_least, .long (i64 m_pairOne), .long (i64 m_pairTwo), .long (i64 m_sumUp), .long (i64 m_sumDown)])), (aX8_row, aL X.cJ 17 m_row_54)]
  refine q_goto g (40) 97 (by decide) dX8_goRoad_57 ?_
  refine q_lv (lv' := [(0, .ref hX8)]) [0] rfl ?_
  exact s_X8_goRoad_97 g hR hX8 aX8_ups aX8_downs aX8_row m_found aX8_sumMany aX8_sumShares aX8_sumSet aX8_taken aX8_restUp aX8_restDown m_fewest m_wishes aX8_wished aX8_far aX8_queue m_divided aX8_divisors aX8_least m_pairOne m_pairTwo m_sumUp m_sumDown Q hF m_many_54 m_row_54 m_isSpent_54 rm_many_54 rm_row_54 rm_isSpent_54 h
def wp_X8_goRoad (Q : Int → Int → (Int → Int) → Int → Prop) (m_many : Int) (m_row : Int → Int) (m_isSpent : Int) (l1 : Int) (l2 : Int) (l4 : Int) : Prop := ((l2 ≤ 0 → wp_X8_goRoad_29 Q m_many m_row m_isSpent) ∧
  (¬ (l2 ≤ 0) → ((l4 ≤ l2 → wp_X8_goRoad_29 Q m_many m_row m_isSpent) ∧
  (¬ (l4 ≤ l2) → ((¬ l1 = 1 → wp_X8_goRoad_32 Q m_many m_row m_isSpent l1 l2 l4) ∧
  (l1 = 1 → ((¬ (l4.tmod 2) = 0 → wp_X8_goRoad_32 Q m_many m_row m_isSpent l1 l2 l4) ∧
  ((l4.tmod 2) = 0 → wp_X8_goRoad_29 Q m_many m_row m_isSpent))))))))
set_option maxHeartbeats 4000000 in
set_option maxRecDepth 100000 in
theorem c_X8_goRoad (l : Launch) (D : va_G) (cI cJ : ClassId) (zt : Nat) (hX8 : Nat) (aX8_ups : Nat) (aX8_downs : Nat) (m_many : Int) (aX8_row : Nat) (m_isSpent : Int) (m_found : Int) (aX8_sumMany : Nat) (aX8_sumShares : Nat) (aX8_sumSet : Nat) (aX8_taken : Nat) (aX8_restUp : Nat) (aX8_restDown : Nat) (m_fewest : Int) (m_wishes : Int) (aX8_wished : Nat) (aX8_far : Nat) (aX8_queue : Nat) (m_divided : Int) (aX8_divisors : Nat) (aX8_least : Nat) (m_pairOne : Int) (m_pairTwo : Int) (m_sumUp : Int) (m_sumDown : Int) (m_row : Int → Int) (l1 : Int) (l2 : Int) (l4 : Int) (Q : Int → Int → (Int → Int) → Int → Prop) (r_m_many : r32 m_many) (r_m_row : rr64 m_row) (r_m_isSpent : r32 m_isSpent) (r_l1 : r32 l1) (r_l2 : r64 l2) (r_l4 : r64 l4) (h : wp_X8_goRoad Q m_many m_row m_isSpent l1 l2 l4) : Ct l D cI cJ zt yX8_goRoad cX8_goRoad 6 (some .int) 3 0 0 [.ref hX8, .int (i32 l1), .long (i64 l2), .long (i64 l4)] [(hX8, .inr (7, [.ref aX8_ups, .ref aX8_downs, .int (i32 m_many), .ref aX8_row, .int (i32 m_isSpent), .int (i32 m_found), .ref aX8_sumMany, .ref aX8_sumShares, .ref aX8_sumSet, .ref aX8_taken, .ref aX8_restUp, .ref aX8_restDown, .int (i32 m_fewest), .int (i32 m_wishes), .ref aX8_wished, .ref aX8_far, .ref aX8_queue, .int (i32 m_divided), .ref aX8_divisors, .ref aX8_least, .long (i64 m_pairOne), .long (i64 m_pairTwo), .long (i64 m_sumUp), .long (i64 m_sumDown)])), (aX8_row, aL cJ 17 m_row)] (po_X8_goRoad cI cJ hX8 aX8_ups aX8_downs aX8_row m_found aX8_sumMany aX8_sumShares aX8_sumSet aX8_taken aX8_restUp aX8_restDown m_fewest m_wishes aX8_wished aX8_far aX8_queue m_divided aX8_divisors aX8_least m_pairOne m_pairTwo m_sumUp m_sumDown Q) := by
  refine ct_of (by decide +kernel) (Nat.le_of_ble_eq_true rfl) (fun X hl hDD hcI hcJ hzt hR hF hnm g => ?_)
  subst hl; subst hDD; subst hcI; subst hcJ; subst hzt
  show Wat X 0 0 0 [(0, .ref hX8), (1, .int (i32 l1)), (2, .long (i64 l2)), (4, .long (i64 l4))] [] [(hX8, .inr (7, [.ref aX8_ups, .ref aX8_downs, .int (i32 m_many), .ref aX8_row, .int (i32 m_isSpent), .int (i32 m_found), .ref aX8_sumMany, .ref aX8_sumShares, .ref aX8_sumSet, .ref aX8_taken, .ref aX8_restUp, .ref aX8_restDown, .int (i32 m_fewest), .int (i32 m_wishes), .ref aX8_wished, .ref aX8_far, .ref aX8_queue, .int (i32 m_divided), .ref aX8_divisors, .ref aX8_least, .long (i64 m_pairOne), .long (i64 m_pairTwo), .long (i64 m_sumUp), .long (i64 m_sumDown)])), (aX8_row, aL X.cJ 17 m_row)]
  replace g : Gd X cX8_goRoad RX8 (some .int) 6 := g
  rw [wp_X8_goRoad] at h
  refine q_lload_n g 2 2 rfl dX8_goRoad_0 ?_
  refine q_lconst g 0 0 rfl dX8_goRoad_1 ?_
  refine q_lcmp_le g (26) 29 r_l2 (r64_lit _ (by decide)) (by decide) dX8_goRoad_2 dX8_goRoad_3 (fun b2 => ?_) (fun b2 => ?_)
  · replace h := h.1 b2
    refine q_lv (lv' := []) [] rfl ?_
    exact s_X8_goRoad_29 g hR hX8 aX8_ups aX8_downs aX8_row m_found aX8_sumMany aX8_sumShares aX8_sumSet aX8_taken aX8_restUp aX8_restDown m_fewest m_wishes aX8_wished aX8_far aX8_queue m_divided aX8_divisors aX8_least m_pairOne m_pairTwo m_sumUp m_sumDown Q hF m_many m_row m_isSpent r_m_many r_m_row r_m_isSpent h
  replace h := h.2 b2
  refine q_lload_n g 2 2 rfl dX8_goRoad_6 ?_
  refine q_lload g 4 3 rfl dX8_goRoad_7 ?_
  refine q_lcmp_ge g (19) 29 r_l2 r_l4 (by decide) dX8_goRoad_9 dX8_goRoad_10 (fun b9 => ?_) (fun b9 => ?_)
  · replace h := h.1 b9
    refine q_lv (lv' := []) [] rfl ?_
    exact s_X8_goRoad_29 g hR hX8 aX8_ups aX8_downs aX8_row m_found aX8_sumMany aX8_sumShares aX8_sumSet aX8_taken aX8_restUp aX8_restDown m_fewest m_wishes aX8_wished aX8_far aX8_queue m_divided aX8_divisors aX8_least m_pairOne m_pairTwo m_sumUp m_sumDown Q hF m_many m_row m_isSpent r_m_many r_m_row r_m_isSpent h
  replace h := h.2 b9
  refine q_iload_n g 1 1 rfl dX8_goRoad_13 ?_
  refine q_iconst g (1) dX8_goRoad_14 ?_
  refine q_icmp_ne g (17) 32 r_l1 (r32_lit _ (by decide)) (by decide) dX8_goRoad_15 (fun b15 => ?_) (fun b15 => ?_)
  · replace h := h.1 b15
    exact s_X8_goRoad_32 g hR hX8 aX8_ups aX8_downs aX8_row m_found aX8_sumMany aX8_sumShares aX8_sumSet aX8_taken aX8_restUp aX8_restDown m_fewest m_wishes aX8_wished aX8_far aX8_queue m_divided aX8_divisors aX8_least m_pairOne m_pairTwo m_sumUp m_sumDown Q hF m_many m_row m_isSpent l1 l2 l4 r_m_many r_m_row r_m_isSpent r_l1 r_l2 r_l4 h
  replace h := h.2 b15
  refine q_lload g 4 3 rfl dX8_goRoad_18 ?_
  refine q_ldc2 (w := 2) g 89 (2) (by decide +kernel) wL_X8_89 dX8_goRoad_20 ?_
  refine q_lrem g r_l4 (r64_lit _ (by decide)) (ne_of_pos (by decide)) dX8_goRoad_23 ?_
  refine q_lconst g 0 0 rfl dX8_goRoad_24 ?_
  refine q_lcmp_ne g (6) 32 (r64_tmod r_l4 (r64_lit _ (by decide)) (ne_of_pos (by decide))) (r64_lit _ (by decide)) (by decide) dX8_goRoad_25 dX8_goRoad_26 (fun b25 => ?_) (fun b25 => ?_)
  · replace h := h.1 b25
    exact s_X8_goRoad_32 g hR hX8 aX8_ups aX8_downs aX8_row m_found aX8_sumMany aX8_sumShares aX8_sumSet aX8_taken aX8_restUp aX8_restDown m_fewest m_wishes aX8_wished aX8_far aX8_queue m_divided aX8_divisors aX8_least m_pairOne m_pairTwo m_sumUp m_sumDown Q hF m_many m_row m_isSpent l1 l2 l4 r_m_many r_m_row r_m_isSpent r_l1 r_l2 r_l4 h
  replace h := h.2 b25
  refine q_lv (lv' := []) [] rfl ?_
  exact s_X8_goRoad_29 g hR hX8 aX8_ups aX8_downs aX8_row m_found aX8_sumMany aX8_sumShares aX8_sumSet aX8_taken aX8_restUp aX8_restDown m_fewest m_wishes aX8_wished aX8_far aX8_queue m_divided aX8_divisors aX8_least m_pairOne m_pairTwo m_sumUp m_sumDown Q hF m_many m_row m_isSpent r_m_many r_m_row r_m_isSpent h
theorem dX8_handy_0 : decode cX8_handy 0 = .ok (.iload_n 1, 1) := by decide +kernel
theorem dX8_handy_1 : decode cX8_handy 1 = .ok (.i2l, 1) := by decide +kernel
theorem dX8_handy_2 : decode cX8_handy 2 = .ok (.lconst 1, 1) := by decide +kernel
theorem dX8_handy_3 : decode cX8_handy 3 = .ok (.ldc2_w 196, 3) := by decide +kernel
theorem dX8_handy_6 : decode cX8_handy 6 = .ok (.invokestatic 60, 3) := by decide +kernel
theorem dX8_handy_9 : decode cX8_handy 9 = .ok (.ifCond .ne 5, 3) := by decide +kernel
theorem dX8_handy_12 : decode cX8_handy 12 = .ok (.iconst (-1), 1) := by decide +kernel
theorem dX8_handy_13 : decode cX8_handy 13 = .ok (.ireturn, 1) := by decide +kernel
theorem dX8_handy_14 : decode cX8_handy 14 = .ok (.lconst 0, 1) := by decide +kernel
theorem dX8_handy_15 : decode cX8_handy 15 = .ok (.lstore_n 2, 1) := by decide +kernel
theorem dX8_handy_16 : decode cX8_handy 16 = .ok (.iconst 1, 1) := by decide +kernel
theorem dX8_handy_17 : decode cX8_handy 17 = .ok (.istore 4, 2) := by decide +kernel
theorem dX8_handy_19 : decode cX8_handy 19 = .ok (.iconst 1, 1) := by decide +kernel
theorem dX8_handy_20 : decode cX8_handy 20 = .ok (.istore 5, 2) := by decide +kernel
theorem dX8_handy_22 : decode cX8_handy 22 = .ok (.iload 5, 2) := by decide +kernel
theorem dX8_handy_24 : decode cX8_handy 24 = .ok (.iload_n 1, 1) := by decide +kernel
theorem dX8_handy_25 : decode cX8_handy 25 = .ok (.if_icmp .gt 44, 3) := by decide +kernel
theorem dX8_handy_28 : decode cX8_handy 28 = .ok (.iload_n 1, 1) := by decide +kernel
theorem dX8_handy_29 : decode cX8_handy 29 = .ok (.iload 5, 2) := by decide +kernel
theorem dX8_handy_31 : decode cX8_handy 31 = .ok (.irem, 1) := by decide +kernel
theorem dX8_handy_32 : decode cX8_handy 32 = .ok (.ifCond .ne 31, 3) := by decide +kernel
theorem dX8_handy_35 : decode cX8_handy 35 = .ok (.iload 4, 2) := by decide +kernel
theorem dX8_handy_37 : decode cX8_handy 37 = .ok (.ifCond .eq 17, 3) := by decide +kernel
theorem dX8_handy_40 : decode cX8_handy 40 = .ok (.iload 5, 2) := by decide +kernel
theorem dX8_handy_42 : decode cX8_handy 42 = .ok (.i2l, 1) := by decide +kernel
theorem dX8_handy_43 : decode cX8_handy 43 = .ok (.lload_n 2, 1) := by decide +kernel
theorem dX8_handy_44 : decode cX8_handy 44 = .ok (.lconst 1, 1) := by decide +kernel
theorem dX8_handy_45 : decode cX8_handy 45 = .ok (.ladd, 1) := by decide +kernel
theorem dX8_handy_46 : decode cX8_handy 46 = .ok (.lcmp, 1) := by decide +kernel
theorem dX8_handy_47 : decode cX8_handy 47 = .ok (.ifCond .gt 7, 3) := by decide +kernel
theorem dX8_handy_50 : decode cX8_handy 50 = .ok (.iconst 1, 1) := by decide +kernel
theorem dX8_handy_51 : decode cX8_handy 51 = .ok (.goto 4, 3) := by decide +kernel
theorem dX8_handy_54 : decode cX8_handy 54 = .ok (.iconst 0, 1) := by decide +kernel
theorem dX8_handy_55 : decode cX8_handy 55 = .ok (.istore 4, 2) := by decide +kernel
theorem dX8_handy_57 : decode cX8_handy 57 = .ok (.lload_n 2, 1) := by decide +kernel
theorem dX8_handy_58 : decode cX8_handy 58 = .ok (.iload 5, 2) := by decide +kernel
theorem dX8_handy_60 : decode cX8_handy 60 = .ok (.i2l, 1) := by decide +kernel
theorem dX8_handy_61 : decode cX8_handy 61 = .ok (.ladd, 1) := by decide +kernel
theorem dX8_handy_62 : decode cX8_handy 62 = .ok (.lstore_n 2, 1) := by decide +kernel
theorem dX8_handy_63 : decode cX8_handy 63 = .ok (.iinc 5 1, 3) := by decide +kernel
theorem dX8_handy_66 : decode cX8_handy 66 = .ok (.goto (-44), 3) := by decide +kernel
theorem dX8_handy_69 : decode cX8_handy 69 = .ok (.iload 4, 2) := by decide +kernel
theorem dX8_handy_71 : decode cX8_handy 71 = .ok (.ifCond .eq 7, 3) := by decide +kernel
theorem dX8_handy_74 : decode cX8_handy 74 = .ok (.iconst 1, 1) := by decide +kernel
theorem dX8_handy_75 : decode cX8_handy 75 = .ok (.goto 4, 3) := by decide +kernel
theorem dX8_handy_78 : decode cX8_handy 78 = .ok (.iconst 0, 1) := by decide +kernel
theorem dX8_handy_79 : decode cX8_handy 79 = .ok (.ireturn, 1) := by decide +kernel
abbrev po_X8_handy (cI cJ : ClassId) (hX8 : Nat) (aX8_ups : Nat) (aX8_downs : Nat) (m_many : Int) (aX8_row : Nat) (m_isSpent : Int) (m_found : Int) (aX8_sumMany : Nat) (aX8_sumShares : Nat) (aX8_sumSet : Nat) (aX8_taken : Nat) (aX8_restUp : Nat) (aX8_restDown : Nat) (m_fewest : Int) (m_wishes : Int) (aX8_wished : Nat) (aX8_far : Nat) (aX8_queue : Nat) (m_divided : Int) (aX8_divisors : Nat) (aX8_least : Nat) (m_pairOne : Int) (m_pairTwo : Int) (m_sumUp : Int) (m_sumDown : Int) (Q : Int → Prop) : Option Value → va_W → Prop := fun rv w1 => ∃ (r0 : Int), rv = some (.int (i32 r0)) ∧ w1 = [(hX8, .inr (7, [.ref aX8_ups, .ref aX8_downs, .int (i32 m_many), .ref aX8_row, .int (i32 m_isSpent), .int (i32 m_found), .ref aX8_sumMany, .ref aX8_sumShares, .ref aX8_sumSet, .ref aX8_taken, .ref aX8_restUp, .ref aX8_restDown, .int (i32 m_fewest), .int (i32 m_wishes), .ref aX8_wished, .ref aX8_far, .ref aX8_queue, .int (i32 m_divided), .ref aX8_divisors, .ref aX8_least, .long (i64 m_pairOne), .long (i64 m_pairTwo), .long (i64 m_sumUp), .long (i64 m_sumDown)]))] ∧ r32 r0 ∧ Q r0
def wp_X8_handy_63 (Q : Int → Prop) (K_22 : Int → Int → Int → Int → Prop) (l1 : Int) (l2 : Int) (l4 : Int) (l5 : Int) : Prop := (r32 (l5 + 1) ∧ K_22 l1 l2 l4 (l5 + 1))
set_option maxHeartbeats 4000000 in
set_option maxRecDepth 100000 in
theorem s_X8_handy_63 {X : Cx} (g : Gd X cX8_handy RX8 (some .int) 6) (hR : X.R = rmL 2 0 0) (hX8 : Nat) (aX8_ups : Nat) (aX8_downs : Nat) (m_many : Int) (aX8_row : Nat) (m_isSpent : Int) (m_found : Int) (aX8_sumMany : Nat) (aX8_sumShares : Nat) (aX8_sumSet : Nat) (aX8_taken : Nat) (aX8_restUp : Nat) (aX8_restDown : Nat) (m_fewest : Int) (m_wishes : Int) (aX8_wished : Nat) (aX8_far : Nat) (aX8_queue : Nat) (m_divided : Int) (aX8_divisors : Nat) (aX8_least : Nat) (m_pairOne : Int) (m_pairTwo : Int) (m_sumUp : Int) (m_sumDown : Int) (Q : Int → Prop) (hF : FQ X 0 0 (po_X8_handy X.cI X.cJ hX8 aX8_ups aX8_downs m_many aX8_row m_isSpent m_found aX8_sumMany aX8_sumShares aX8_sumSet aX8_taken aX8_restUp aX8_restDown m_fewest m_wishes aX8_wished aX8_far aX8_queue m_divided aX8_divisors aX8_least m_pairOne m_pairTwo m_sumUp m_sumDown Q)) (K_22 : Int → Int → Int → Int → Prop) (hK_22 : ∀ (l1 : Int) (l2 : Int) (l4 : Int) (l5 : Int), r32 l1 → r64 l2 → r32 l4 → r32 l5 → K_22 l1 l2 l4 l5 → Wat X 0 0 22 [(1, .int (i32 l1)), (2, .long (i64 l2)), (4, .int (i32 l4)), (5, .int (i32 l5))] [] [(hX8, .inr (7, [.ref aX8_ups, .ref aX8_downs, .int (i32 m_many), .ref aX8_row, .int (i32 m_isSpent), .int (i32 m_found), .ref aX8_sumMany, .ref aX8_sumShares, .ref aX8_sumSet, .ref aX8_taken, .ref aX8_restUp, .ref aX8_restDown, .int (i32 m_fewest), .int (i32 m_wishes), .ref aX8_wished, .ref aX8_far, .ref aX8_queue, .int (i32 m_divided), .ref aX8_divisors, .ref aX8_least, .long (i64 m_pairOne), .long (i64 m_pairTwo), .long (i64 m_sumUp), .long (i64 m_sumDown)]))]) : ∀ (l1 : Int) (l2 : Int) (l4 : Int) (l5 : Int), r32 l1 → r64 l2 → r32 l4 → r32 l5 → wp_X8_handy_63 Q K_22 l1 l2 l4 l5 → Wat X 0 0 63 [(1, .int (i32 l1)), (2, .long (i64 l2)), (4, .int (i32 l4)), (5, .int (i32 l5))] [] [(hX8, .inr (7, [.ref aX8_ups, .ref aX8_downs, .int (i32 m_many), .ref aX8_row, .int (i32 m_isSpent), .int (i32 m_found), .ref aX8_sumMany, .ref aX8_sumShares, .ref aX8_sumSet, .ref aX8_taken, .ref aX8_restUp, .ref aX8_restDown, .int (i32 m_fewest), .int (i32 m_wishes), .ref aX8_wished, .ref aX8_far, .ref aX8_queue, .int (i32 m_divided), .ref aX8_divisors, .ref aX8_least, .long (i64 m_pairOne), .long (i64 m_pairTwo), .long (i64 m_sumUp), .long (i64 m_sumDown)]))] := by
  intro l1 l2 l4 l5 r_l1 r_l2 r_l4 r_l5 h
  rw [wp_X8_handy_63] at h
  obtain ⟨c63, h⟩ := h
  refine q_iinc (lv' := [(5, .int (i32 (l5 + 1))), (1, .int (i32 l1)), (2, .long (i64 l2)), (4, .int (i32 l4))]) g 5 3 1 (by decide) rfl rfl dX8_handy_63 ?_
  refine q_goto g (-44) 22 (by decide) dX8_handy_66 ?_
  refine q_lv (lv' := [(1, .int (i32 l1)), (2, .long (i64 l2)), (4, .int (i32 l4)), (5, .int (i32 (l5 + 1)))]) [1, 2, 3, 0] rfl ?_
  exact hK_22 l1 l2 l4 (l5 + 1) r_l1 r_l2 r_l4 c63 h
def wp_X8_handy_55 (Q : Int → Prop) (K_22 : Int → Int → Int → Int → Prop) (l1 : Int) (l2 : Int) (l5 : Int) (k0 : Int) : Prop := (r64 (l2 + l5) ∧ ∀ x62 : Int, x62 = (l2 + l5) → wp_X8_handy_63 Q K_22 l1 x62 k0 l5)
set_option maxHeartbeats 4000000 in
set_option maxRecDepth 100000 in
theorem s_X8_handy_55 {X : Cx} (g : Gd X cX8_handy RX8 (some .int) 6) (hR : X.R = rmL 2 0 0) (hX8 : Nat) (aX8_ups : Nat) (aX8_downs : Nat) (m_many : Int) (aX8_row : Nat) (m_isSpent : Int) (m_found : Int) (aX8_sumMany : Nat) (aX8_sumShares : Nat) (aX8_sumSet : Nat) (aX8_taken : Nat) (aX8_restUp : Nat) (aX8_restDown : Nat) (m_fewest : Int) (m_wishes : Int) (aX8_wished : Nat) (aX8_far : Nat) (aX8_queue : Nat) (m_divided : Int) (aX8_divisors : Nat) (aX8_least : Nat) (m_pairOne : Int) (m_pairTwo : Int) (m_sumUp : Int) (m_sumDown : Int) (Q : Int → Prop) (hF : FQ X 0 0 (po_X8_handy X.cI X.cJ hX8 aX8_ups aX8_downs m_many aX8_row m_isSpent m_found aX8_sumMany aX8_sumShares aX8_sumSet aX8_taken aX8_restUp aX8_restDown m_fewest m_wishes aX8_wished aX8_far aX8_queue m_divided aX8_divisors aX8_least m_pairOne m_pairTwo m_sumUp m_sumDown Q)) (K_22 : Int → Int → Int → Int → Prop) (hK_22 : ∀ (l1 : Int) (l2 : Int) (l4 : Int) (l5 : Int), r32 l1 → r64 l2 → r32 l4 → r32 l5 → K_22 l1 l2 l4 l5 → Wat X 0 0 22 [(1, .int (i32 l1)), (2, .long (i64 l2)), (4, .int (i32 l4)), (5, .int (i32 l5))] [] [(hX8, .inr (7, [.ref aX8_ups, .ref aX8_downs, .int (i32 m_many), .ref aX8_row, .int (i32 m_isSpent), .int (i32 m_found), .ref aX8_sumMany, .ref aX8_sumShares, .ref aX8_sumSet, .ref aX8_taken, .ref aX8_restUp, .ref aX8_restDown, .int (i32 m_fewest), .int (i32 m_wishes), .ref aX8_wished, .ref aX8_far, .ref aX8_queue, .int (i32 m_divided), .ref aX8_divisors, .ref aX8_least, .long (i64 m_pairOne), .long (i64 m_pairTwo), .long (i64 m_sumUp), .long (i64 m_sumDown)]))]) : ∀ (l1 : Int) (l2 : Int) (l5 : Int) (k0 : Int), r32 l1 → r64 l2 → r32 l5 → r32 k0 → wp_X8_handy_55 Q K_22 l1 l2 l5 k0 → Wat X 0 0 55 [(1, .int (i32 l1)), (2, .long (i64 l2)), (5, .int (i32 l5))] [.int (i32 k0)] [(hX8, .inr (7, [.ref aX8_ups, .ref aX8_downs, .int (i32 m_many), .ref aX8_row, .int (i32 m_isSpent), .int (i32 m_found), .ref aX8_sumMany, .ref aX8_sumShares, .ref aX8_sumSet, .ref aX8_taken, .ref aX8_restUp, .ref aX8_restDown, .int (i32 m_fewest), .int (i32 m_wishes), .ref aX8_wished, .ref aX8_far, .ref aX8_queue, .int (i32 m_divided), .ref aX8_divisors, .ref aX8_least, .long (i64 m_pairOne), .long (i64 m_pairTwo), .long (i64 m_sumUp), .long (i64 m_sumDown)]))] := by
  intro l1 l2 l5 k0 r_l1 r_l2 r_l5 r_k0 h
  rw [wp_X8_handy_55] at h
  refine q_istore (lv' := [(4, .int (i32 k0)), (1, .int (i32 l1)), (2, .long (i64 l2)), (5, .int (i32 l5))]) g 4   (by decide) rfl dX8_handy_55 ?_
  refine q_lload_n g 2 2 rfl dX8_handy_57 ?_
  refine q_iload g 5 3 rfl dX8_handy_58 ?_
  refine q_i2l g r_l5 dX8_handy_60 ?_
  obtain ⟨c61, h⟩ := h
  refine q_ladd g dX8_handy_61 ?_
  refine q_topl c61 (fun x62 ex62 rx62 => ?_)
  replace h := h x62 ex62
  refine q_lstore_n (lv' := [(2, .long (i64 x62)), (4, .int (i32 k0)), (1, .int (i32 l1)), (5, .int (i32 l5))]) g 2 2 rfl (by decide) rfl dX8_handy_62 ?_
  refine q_lv (lv' := [(1, .int (i32 l1)), (2, .long (i64 x62)), (4, .int (i32 k0)), (5, .int (i32 l5))]) [2, 0, 1, 3] rfl ?_
  exact s_X8_handy_63 g hR hX8 aX8_ups aX8_downs m_many aX8_row m_isSpent m_found aX8_sumMany aX8_sumShares aX8_sumSet aX8_taken aX8_restUp aX8_restDown m_fewest m_wishes aX8_wished aX8_far aX8_queue m_divided aX8_divisors aX8_least m_pairOne m_pairTwo m_sumUp m_sumDown Q hF K_22 hK_22 l1 x62 k0 l5 r_l1 rx62 r_k0 r_l5 h
def wp_X8_handy_54 (Q : Int → Prop) (K_22 : Int → Int → Int → Int → Prop) (l1 : Int) (l2 : Int) (l5 : Int) : Prop := wp_X8_handy_55 Q K_22 l1 l2 l5 0
set_option maxHeartbeats 4000000 in
set_option maxRecDepth 100000 in
theorem s_X8_handy_54 {X : Cx} (g : Gd X cX8_handy RX8 (some .int) 6) (hR : X.R = rmL 2 0 0) (hX8 : Nat) (aX8_ups : Nat) (aX8_downs : Nat) (m_many : Int) (aX8_row : Nat) (m_isSpent : Int) (m_found : Int) (aX8_sumMany : Nat) (aX8_sumShares : Nat) (aX8_sumSet : Nat) (aX8_taken : Nat) (aX8_restUp : Nat) (aX8_restDown : Nat) (m_fewest : Int) (m_wishes : Int) (aX8_wished : Nat) (aX8_far : Nat) (aX8_queue : Nat) (m_divided : Int) (aX8_divisors : Nat) (aX8_least : Nat) (m_pairOne : Int) (m_pairTwo : Int) (m_sumUp : Int) (m_sumDown : Int) (Q : Int → Prop) (hF : FQ X 0 0 (po_X8_handy X.cI X.cJ hX8 aX8_ups aX8_downs m_many aX8_row m_isSpent m_found aX8_sumMany aX8_sumShares aX8_sumSet aX8_taken aX8_restUp aX8_restDown m_fewest m_wishes aX8_wished aX8_far aX8_queue m_divided aX8_divisors aX8_least m_pairOne m_pairTwo m_sumUp m_sumDown Q)) (K_22 : Int → Int → Int → Int → Prop) (hK_22 : ∀ (l1 : Int) (l2 : Int) (l4 : Int) (l5 : Int), r32 l1 → r64 l2 → r32 l4 → r32 l5 → K_22 l1 l2 l4 l5 → Wat X 0 0 22 [(1, .int (i32 l1)), (2, .long (i64 l2)), (4, .int (i32 l4)), (5, .int (i32 l5))] [] [(hX8, .inr (7, [.ref aX8_ups, .ref aX8_downs, .int (i32 m_many), .ref aX8_row, .int (i32 m_isSpent), .int (i32 m_found), .ref aX8_sumMany, .ref aX8_sumShares, .ref aX8_sumSet, .ref aX8_taken, .ref aX8_restUp, .ref aX8_restDown, .int (i32 m_fewest), .int (i32 m_wishes), .ref aX8_wished, .ref aX8_far, .ref aX8_queue, .int (i32 m_divided), .ref aX8_divisors, .ref aX8_least, .long (i64 m_pairOne), .long (i64 m_pairTwo), .long (i64 m_sumUp), .long (i64 m_sumDown)]))]) : ∀ (l1 : Int) (l2 : Int) (l5 : Int), r32 l1 → r64 l2 → r32 l5 → wp_X8_handy_54 Q K_22 l1 l2 l5 → Wat X 0 0 54 [(1, .int (i32 l1)), (2, .long (i64 l2)), (5, .int (i32 l5))] [] [(hX8, .inr (7, [.ref aX8_ups, .ref aX8_downs, .int (i32 m_many), .ref aX8_row, .int (i32 m_isSpent), .int (i32 m_found), .ref aX8_sumMany, .ref aX8_sumShares, .ref aX8_sumSet, .ref aX8_taken, .ref aX8_restUp, .ref aX8_restDown, .int (i32 m_fewest), .int (i32 m_wishes), .ref aX8_wished, .ref aX8_far, .ref aX8_queue, .int (i32 m_divided), .ref aX8_divisors, .ref aX8_least, .long (i64 m_pairOne), .long (i64 m_pairTwo), .long (i64 m_sumUp), .long (i64 m_sumDown)]))] := by
  intro l1 l2 l5 r_l1 r_l2 r_l5 h
  rw [wp_X8_handy_54] at h
  refine q_iconst g (0) dX8_handy_54 ?_
  exact s_X8_handy_55 g hR hX8 aX8_ups aX8_downs m_many aX8_row m_isSpent m_found aX8_sumMany aX8_sumShares aX8_sumSet aX8_taken aX8_restUp aX8_restDown m_fewest m_wishes aX8_wished aX8_far aX8_queue m_divided aX8_divisors aX8_least m_pairOne m_pairTwo m_sumUp m_sumDown Q hF K_22 hK_22 l1 l2 l5 0 r_l1 r_l2 r_l5 (r32_lit _ (by decide)) h
def wp_X8_handy_79 (Q : Int → Prop) (k0 : Int) : Prop := Q k0
set_option maxHeartbeats 4000000 in
set_option maxRecDepth 100000 in
theorem s_X8_handy_79 {X : Cx} (g : Gd X cX8_handy RX8 (some .int) 6) (hR : X.R = rmL 2 0 0) (hX8 : Nat) (aX8_ups : Nat) (aX8_downs : Nat) (m_many : Int) (aX8_row : Nat) (m_isSpent : Int) (m_found : Int) (aX8_sumMany : Nat) (aX8_sumShares : Nat) (aX8_sumSet : Nat) (aX8_taken : Nat) (aX8_restUp : Nat) (aX8_restDown : Nat) (m_fewest : Int) (m_wishes : Int) (aX8_wished : Nat) (aX8_far : Nat) (aX8_queue : Nat) (m_divided : Int) (aX8_divisors : Nat) (aX8_least : Nat) (m_pairOne : Int) (m_pairTwo : Int) (m_sumUp : Int) (m_sumDown : Int) (Q : Int → Prop) (hF : FQ X 0 0 (po_X8_handy X.cI X.cJ hX8 aX8_ups aX8_downs m_many aX8_row m_isSpent m_found aX8_sumMany aX8_sumShares aX8_sumSet aX8_taken aX8_restUp aX8_restDown m_fewest m_wishes aX8_wished aX8_far aX8_queue m_divided aX8_divisors aX8_least m_pairOne m_pairTwo m_sumUp m_sumDown Q)) : ∀ (k0 : Int), r32 k0 → wp_X8_handy_79 Q k0 → Wat X 0 0 79 [] [.int (i32 k0)] [(hX8, .inr (7, [.ref aX8_ups, .ref aX8_downs, .int (i32 m_many), .ref aX8_row, .int (i32 m_isSpent), .int (i32 m_found), .ref aX8_sumMany, .ref aX8_sumShares, .ref aX8_sumSet, .ref aX8_taken, .ref aX8_restUp, .ref aX8_restDown, .int (i32 m_fewest), .int (i32 m_wishes), .ref aX8_wished, .ref aX8_far, .ref aX8_queue, .int (i32 m_divided), .ref aX8_divisors, .ref aX8_least, .long (i64 m_pairOne), .long (i64 m_pairTwo), .long (i64 m_sumUp), .long (i64 m_sumDown)]))] := by
  intro k0 r_k0 h
  rw [wp_X8_handy_79] at h
  exact q_iret g hF ⟨k0, rfl, rfl, r_k0, h⟩ dX8_handy_79
def wp_X8_handy_22 (Q : Int → Prop) : Nat → Int → Int → Int → Int → Prop
  | 0, _, _, _, _ => False
  | n + 1, l1, l2, l4, l5 => ((l1 < l5 → ((l4 = 0 → wp_X8_handy_79 Q 0) ∧
  (¬ (l4 = 0) → wp_X8_handy_79 Q 1))) ∧
  (¬ (l1 < l5) → (0 < l5 ∧ ((¬ (l1.tmod l5) = 0 → wp_X8_handy_63 Q (wp_X8_handy_22 Q n) l1 l2 l4 l5) ∧
  ((l1.tmod l5) = 0 → ((l4 = 0 → wp_X8_handy_54 Q (wp_X8_handy_22 Q n) l1 l2 l5) ∧
  (¬ (l4 = 0) → (r64 (l2 + 1) ∧ (((l2 + 1) < l5 → wp_X8_handy_54 Q (wp_X8_handy_22 Q n) l1 l2 l5) ∧
  (¬ ((l2 + 1) < l5) → wp_X8_handy_55 Q (wp_X8_handy_22 Q n) l1 l2 l5 1))))))))))
set_option maxHeartbeats 4000000 in
set_option maxRecDepth 100000 in
theorem s_X8_handy_22 {X : Cx} (g : Gd X cX8_handy RX8 (some .int) 6) (hR : X.R = rmL 2 0 0) (hX8 : Nat) (aX8_ups : Nat) (aX8_downs : Nat) (m_many : Int) (aX8_row : Nat) (m_isSpent : Int) (m_found : Int) (aX8_sumMany : Nat) (aX8_sumShares : Nat) (aX8_sumSet : Nat) (aX8_taken : Nat) (aX8_restUp : Nat) (aX8_restDown : Nat) (m_fewest : Int) (m_wishes : Int) (aX8_wished : Nat) (aX8_far : Nat) (aX8_queue : Nat) (m_divided : Int) (aX8_divisors : Nat) (aX8_least : Nat) (m_pairOne : Int) (m_pairTwo : Int) (m_sumUp : Int) (m_sumDown : Int) (Q : Int → Prop) (hF : FQ X 0 0 (po_X8_handy X.cI X.cJ hX8 aX8_ups aX8_downs m_many aX8_row m_isSpent m_found aX8_sumMany aX8_sumShares aX8_sumSet aX8_taken aX8_restUp aX8_restDown m_fewest m_wishes aX8_wished aX8_far aX8_queue m_divided aX8_divisors aX8_least m_pairOne m_pairTwo m_sumUp m_sumDown Q)) : ∀ (n : Nat) (l1 : Int) (l2 : Int) (l4 : Int) (l5 : Int), r32 l1 → r64 l2 → r32 l4 → r32 l5 → wp_X8_handy_22 Q n l1 l2 l4 l5 → Wat X 0 0 22 [(1, .int (i32 l1)), (2, .long (i64 l2)), (4, .int (i32 l4)), (5, .int (i32 l5))] [] [(hX8, .inr (7, [.ref aX8_ups, .ref aX8_downs, .int (i32 m_many), .ref aX8_row, .int (i32 m_isSpent), .int (i32 m_found), .ref aX8_sumMany, .ref aX8_sumShares, .ref aX8_sumSet, .ref aX8_taken, .ref aX8_restUp, .ref aX8_restDown, .int (i32 m_fewest), .int (i32 m_wishes), .ref aX8_wished, .ref aX8_far, .ref aX8_queue, .int (i32 m_divided), .ref aX8_divisors, .ref aX8_least, .long (i64 m_pairOne), .long (i64 m_pairTwo), .long (i64 m_sumUp), .long (i64 m_sumDown)]))] := by
  intro n
  induction n with
  | zero => intro l1 l2 l4 l5 r_l1 r_l2 r_l4 r_l5 h; exact False.elim h
  | succ n ih =>
    intro l1 l2 l4 l5 r_l1 r_l2 r_l4 r_l5 h
    rw [wp_X8_handy_22] at h
    refine q_iload g 5 3 rfl dX8_handy_22 ?_
    refine q_iload_n g 1 0 rfl dX8_handy_24 ?_
    refine q_icmp_gt g (44) 69 r_l5 r_l1 (by decide) dX8_handy_25 (fun b25 => ?_) (fun b25 => ?_)
    · replace h := h.1 b25
      refine q_iload g 4 2 rfl dX8_handy_69 ?_
      refine q_if_eq g (7) 78 r_l4 (by decide) dX8_handy_71 (fun b71 => ?_) (fun b71 => ?_)
      · replace h := h.1 b71
        refine q_iconst g (0) dX8_handy_78 ?_
        refine q_lv (lv' := []) [] rfl ?_
        exact s_X8_handy_79 g hR hX8 aX8_ups aX8_downs m_many aX8_row m_isSpent m_found aX8_sumMany aX8_sumShares aX8_sumSet aX8_taken aX8_restUp aX8_restDown m_fewest m_wishes aX8_wished aX8_far aX8_queue m_divided aX8_divisors aX8_least m_pairOne m_pairTwo m_sumUp m_sumDown Q hF 0 (r32_lit _ (by decide)) h
      replace h := h.2 b71
      refine q_iconst g (1) dX8_handy_74 ?_
      refine q_goto g (4) 79 (by decide) dX8_handy_75 ?_
      refine q_lv (lv' := []) [] rfl ?_
      exact s_X8_handy_79 g hR hX8 aX8_ups aX8_downs m_many aX8_row m_isSpent m_found aX8_sumMany aX8_sumShares aX8_sumSet aX8_taken aX8_restUp aX8_restDown m_fewest m_wishes aX8_wished aX8_far aX8_queue m_divided aX8_divisors aX8_least m_pairOne m_pairTwo m_sumUp m_sumDown Q hF 1 (r32_lit _ (by decide)) h
    replace h := h.2 b25
    refine q_iload_n g 1 0 rfl dX8_handy_28 ?_
    refine q_iload g 5 3 rfl dX8_handy_29 ?_
    obtain ⟨c31, h⟩ := h
    refine q_irem g r_l1 r_l5 (ne_of_pos c31) dX8_handy_31 ?_
    refine q_if_ne g (31) 63 (r32_tmod r_l1 r_l5 (ne_of_pos c31)) (by decide) dX8_handy_32 (fun b32 => ?_) (fun b32 => ?_)
    · replace h := h.1 b32
      exact s_X8_handy_63 g hR hX8 aX8_ups aX8_downs m_many aX8_row m_isSpent m_found aX8_sumMany aX8_sumShares aX8_sumSet aX8_taken aX8_restUp aX8_restDown m_fewest m_wishes aX8_wished aX8_far aX8_queue m_divided aX8_divisors aX8_least m_pairOne m_pairTwo m_sumUp m_sumDown Q hF (wp_X8_handy_22 Q n) (fun v0 v1 v2 v3 w0 w1 w2 w3 hh => ih v0 v1 v2 v3 w0 w1 w2 w3 hh) l1 l2 l4 l5 r_l1 r_l2 r_l4 r_l5 h
    replace h := h.2 b32
    refine q_iload g 4 2 rfl dX8_handy_35 ?_
    refine q_if_eq g (17) 54 r_l4 (by decide) dX8_handy_37 (fun b37 => ?_) (fun b37 => ?_)
    · replace h := h.1 b37
      refine q_lv (lv' := [(1, .int (i32 l1)), (2, .long (i64 l2)), (5, .int (i32 l5))]) [0, 1, 3] rfl ?_
      exact s_X8_handy_54 g hR hX8 aX8_ups aX8_downs m_many aX8_row m_isSpent m_found aX8_sumMany aX8_sumShares aX8_sumSet aX8_taken aX8_restUp aX8_restDown m_fewest m_wishes aX8_wished aX8_far aX8_queue m_divided aX8_divisors aX8_least m_pairOne m_pairTwo m_sumUp m_sumDown Q hF (wp_X8_handy_22 Q n) (fun v0 v1 v2 v3 w0 w1 w2 w3 hh => ih v0 v1 v2 v3 w0 w1 w2 w3 hh) l1 l2 l5 r_l1 r_l2 r_l5 h
    replace h := h.2 b37
    refine q_iload g 5 3 rfl dX8_handy_40 ?_
    refine q_i2l g r_l5 dX8_handy_42 ?_
    refine q_lload_n g 2 1 rfl dX8_handy_43 ?_
    refine q_lconst g 1 1 rfl dX8_handy_44 ?_
    obtain ⟨c45, h⟩ := h
    refine q_ladd g dX8_handy_45 ?_
    refine q_lcmp_gt g (7) 54 (r32_64 r_l5) c45 (by decide) dX8_handy_46 dX8_handy_47 (fun b46 => ?_) (fun b46 => ?_)
    · replace h := h.1 b46
      refine q_lv (lv' := [(1, .int (i32 l1)), (2, .long (i64 l2)), (5, .int (i32 l5))]) [0, 1, 3] rfl ?_
      exact s_X8_handy_54 g hR hX8 aX8_ups aX8_downs m_many aX8_row m_isSpent m_found aX8_sumMany aX8_sumShares aX8_sumSet aX8_taken aX8_restUp aX8_restDown m_fewest m_wishes aX8_wished aX8_far aX8_queue m_divided aX8_divisors aX8_least m_pairOne m_pairTwo m_sumUp m_sumDown Q hF (wp_X8_handy_22 Q n) (fun v0 v1 v2 v3 w0 w1 w2 w3 hh => ih v0 v1 v2 v3 w0 w1 w2 w3 hh) l1 l2 l5 r_l1 r_l2 r_l5 h
    replace h := h.2 b46
    refine q_iconst g (1) dX8_handy_50 ?_
    refine q_goto g (4) 55 (by decide) dX8_handy_51 ?_
    refine q_lv (lv' := [(1, .int (i32 l1)), (2, .long (i64 l2)), (5, .int (i32 l5))]) [0, 1, 3] rfl ?_
    exact s_X8_handy_55 g hR hX8 aX8_ups aX8_downs m_many aX8_row m_isSpent m_found aX8_sumMany aX8_sumShares aX8_sumSet aX8_taken aX8_restUp aX8_restDown m_fewest m_wishes aX8_wished aX8_far aX8_queue m_divided aX8_divisors aX8_least m_pairOne m_pairTwo m_sumUp m_sumDown Q hF (wp_X8_handy_22 Q n) (fun v0 v1 v2 v3 w0 w1 w2 w3 hh => ih v0 v1 v2 v3 w0 w1 w2 w3 hh) l1 l2 l5 1 r_l1 r_l2 r_l5 (r32_lit _ (by decide)) h
def wp_X8_handy (Q : Int → Prop) (l1 : Int) : Prop := wp_X8_in (fun (x6 : Int) => ((¬ x6 = 0 → (∃ n0 : Nat, wp_X8_handy_22 Q n0 l1 0 1 1)) ∧
  (x6 = 0 → Q (-1)))) l1 1 20000
set_option maxHeartbeats 4000000 in
set_option maxRecDepth 100000 in
theorem c_X8_handy (l : Launch) (D : va_G) (cI cJ : ClassId) (zt : Nat) (hX8 : Nat) (aX8_ups : Nat) (aX8_downs : Nat) (m_many : Int) (aX8_row : Nat) (m_isSpent : Int) (m_found : Int) (aX8_sumMany : Nat) (aX8_sumShares : Nat) (aX8_sumSet : Nat) (aX8_taken : Nat) (aX8_restUp : Nat) (aX8_restDown : Nat) (m_fewest : Int) (m_wishes : Int) (aX8_wished : Nat) (aX8_far : Nat) (aX8_queue : Nat) (m_divided : Int) (aX8_divisors : Nat) (aX8_least : Nat) (m_pairOne : Int) (m_pairTwo : Int) (m_sumUp : Int) (m_sumDown : Int) (l1 : Int) (Q : Int → Prop) (r_l1 : r32 l1) (h : wp_X8_handy Q l1) : Ct l D cI cJ zt yX8_handy cX8_handy 6 (some .int) 2 0 0 [.ref hX8, .int (i32 l1)] [(hX8, .inr (7, [.ref aX8_ups, .ref aX8_downs, .int (i32 m_many), .ref aX8_row, .int (i32 m_isSpent), .int (i32 m_found), .ref aX8_sumMany, .ref aX8_sumShares, .ref aX8_sumSet, .ref aX8_taken, .ref aX8_restUp, .ref aX8_restDown, .int (i32 m_fewest), .int (i32 m_wishes), .ref aX8_wished, .ref aX8_far, .ref aX8_queue, .int (i32 m_divided), .ref aX8_divisors, .ref aX8_least, .long (i64 m_pairOne), .long (i64 m_pairTwo), .long (i64 m_sumUp), .long (i64 m_sumDown)]))] (po_X8_handy cI cJ hX8 aX8_ups aX8_downs m_many aX8_row m_isSpent m_found aX8_sumMany aX8_sumShares aX8_sumSet aX8_taken aX8_restUp aX8_restDown m_fewest m_wishes aX8_wished aX8_far aX8_queue m_divided aX8_divisors aX8_least m_pairOne m_pairTwo m_sumUp m_sumDown Q) := by
  refine ct_of (by decide +kernel) (Nat.le_of_ble_eq_true rfl) (fun X hl hDD hcI hcJ hzt hR hF hnm g => ?_)
  subst hl; subst hDD; subst hcI; subst hcJ; subst hzt
  show Wat X 0 0 0 [(0, .ref hX8), (1, .int (i32 l1))] [] [(hX8, .inr (7, [.ref aX8_ups, .ref aX8_downs, .int (i32 m_many), .ref aX8_row, .int (i32 m_isSpent), .int (i32 m_found), .ref aX8_sumMany, .ref aX8_sumShares, .ref aX8_sumSet, .ref aX8_taken, .ref aX8_restUp, .ref aX8_restDown, .int (i32 m_fewest), .int (i32 m_wishes), .ref aX8_wished, .ref aX8_far, .ref aX8_queue, .int (i32 m_divided), .ref aX8_divisors, .ref aX8_least, .long (i64 m_pairOne), .long (i64 m_pairTwo), .long (i64 m_sumUp), .long (i64 m_sumDown)]))]
  replace g : Gd X cX8_handy RX8 (some .int) 6 := g
  rw [wp_X8_handy] at h
  refine q_iload_n g 1 1 rfl dX8_handy_0 ?_
  refine q_i2l g r_l1 dX8_handy_1 ?_
  refine q_lconst g 1 1 rfl dX8_handy_2 ?_
  refine q_ldc2 (w := 20000) g 196 (20000) (by decide +kernel) wL_X8_196 dX8_handy_3 ?_
  refine q_callS (lev := 1) (mc := 0) (ms := 0) (As := [.long (i64 l1), .long (i64 1), .long (i64 20000)]) g 60 (c_X8_in X.l X.D X.cI X.cJ X.zt l1 1 20000 _ (r32_64 r_l1) (r64_lit _ (by decide)) (r64_lit _ (by decide)) h) (wr := [(hX8, .inr (7, [.ref aX8_ups, .ref aX8_downs, .int (i32 m_many), .ref aX8_row, .int (i32 m_isSpent), .int (i32 m_found), .ref aX8_sumMany, .ref aX8_sumShares, .ref aX8_sumSet, .ref aX8_taken, .ref aX8_restUp, .ref aX8_restDown, .int (i32 m_fewest), .int (i32 m_wishes), .ref aX8_wished, .ref aX8_far, .ref aX8_queue, .int (i32 m_divided), .ref aX8_divisors, .ref aX8_least, .long (i64 m_pairOne), .long (i64 m_pairTwo), .long (i64 m_sumUp), .long (i64 m_sumDown)]))]) [] [0] rfl rfl rfl (by decide) (by decide) (by decide) wM_X8_60 wT_X8_in wZ_X8 wC_X8_in 3 rfl (by decide +kernel) (by rw [hR]; exact ⟨by show 1 + 1 ≤ 2; omega, by show 8 + (6 + 11) + 100 * 1 ≤ 100 * 2; omega⟩) (by rw [hR]; exact ⟨Nat.le_refl _, Nat.le_refl _⟩) (Nat.le_of_ble_eq_true rfl) rfl dX8_handy_6 (fun rv w1 hq => ?_)
  obtain ⟨x6, rfl, rfl, rx6, h⟩ := hq
  show Wat X 0 0 9 [(0, .ref hX8), (1, .int (i32 l1))] [.int (i32 x6)] [(hX8, .inr (7, [.ref aX8_ups, .ref aX8_downs, .int (i32 m_many), .ref aX8_row, .int (i32 m_isSpent), .int (i32 m_found), .ref aX8_sumMany, .ref aX8_sumShares, .ref aX8_sumSet, .ref aX8_taken, .ref aX8_restUp, .ref aX8_restDown, .int (i32 m_fewest), .int (i32 m_wishes), .ref aX8_wished, .ref aX8_far, .ref aX8_queue, .int (i32 m_divided), .ref aX8_divisors, .ref aX8_least, .long (i64 m_pairOne), .long (i64 m_pairTwo), .long (i64 m_sumUp), .long (i64 m_sumDown)]))]
  refine q_if_ne g (5) 14 rx6 (by decide) dX8_handy_9 (fun b9 => ?_) (fun b9 => ?_)
  · replace h := h.1 b9
    refine q_lconst g 0 0 rfl dX8_handy_14 ?_
    refine q_lstore_n (lv' := [(2, .long (i64 0)), (0, .ref hX8), (1, .int (i32 l1))]) g 2 2 rfl (by decide) rfl dX8_handy_15 ?_
    refine q_iconst g (1) dX8_handy_16 ?_
    refine q_istore (lv' := [(4, .int (i32 1)), (2, .long (i64 0)), (0, .ref hX8), (1, .int (i32 l1))]) g 4   (by decide) rfl dX8_handy_17 ?_
    refine q_iconst g (1) dX8_handy_19 ?_
    refine q_istore (lv' := [(5, .int (i32 1)), (4, .int (i32 1)), (2, .long (i64 0)), (0, .ref hX8), (1, .int (i32 l1))]) g 5   (by decide) rfl dX8_handy_20 ?_
    refine q_lv (lv' := [(1, .int (i32 l1)), (2, .long (i64 0)), (4, .int (i32 1)), (5, .int (i32 1))]) [4, 2, 1, 0] rfl ?_
    obtain ⟨n0, h⟩ := h
    exact s_X8_handy_22 g hR hX8 aX8_ups aX8_downs m_many aX8_row m_isSpent m_found aX8_sumMany aX8_sumShares aX8_sumSet aX8_taken aX8_restUp aX8_restDown m_fewest m_wishes aX8_wished aX8_far aX8_queue m_divided aX8_divisors aX8_least m_pairOne m_pairTwo m_sumUp m_sumDown Q hF n0 l1 0 1 1 r_l1 (r64_lit _ (by decide)) (r32_lit _ (by decide)) (r32_lit _ (by decide)) h
  replace h := h.2 b9
  refine q_iconst g (-1) dX8_handy_12 ?_
  exact q_iret g hF ⟨(-1), rfl, rfl, (r32_lit _ (by decide)), h⟩ dX8_handy_13
theorem dX8_keep_0 : decode cX8_keep 0 = .ok (.lload_n 2, 1) := by decide +kernel
theorem dX8_keep_1 : decode cX8_keep 1 = .ok (.lload 4, 2) := by decide +kernel
theorem dX8_keep_3 : decode cX8_keep 3 = .ok (.invokestatic 64, 3) := by decide +kernel
theorem dX8_keep_6 : decode cX8_keep 6 = .ok (.lstore 6, 2) := by decide +kernel
theorem dX8_keep_8 : decode cX8_keep 8 = .ok (.aload_n 0, 1) := by decide +kernel
theorem dX8_keep_9 : decode cX8_keep 9 = .ok (.getfield 7, 3) := by decide +kernel
theorem dX8_keep_12 : decode cX8_keep 12 = .ok (.iload_n 1, 1) := by decide +kernel
theorem dX8_keep_13 : decode cX8_keep 13 = .ok (.lload_n 2, 1) := by decide +kernel
theorem dX8_keep_14 : decode cX8_keep 14 = .ok (.lload 6, 2) := by decide +kernel
theorem dX8_keep_16 : decode cX8_keep 16 = .ok (.ldiv, 1) := by decide +kernel
theorem dX8_keep_17 : decode cX8_keep 17 = .ok (.l2i, 1) := by decide +kernel
theorem dX8_keep_18 : decode cX8_keep 18 = .ok (.iastore, 1) := by decide +kernel
theorem dX8_keep_19 : decode cX8_keep 19 = .ok (.aload_n 0, 1) := by decide +kernel
theorem dX8_keep_20 : decode cX8_keep 20 = .ok (.getfield 13, 3) := by decide +kernel
theorem dX8_keep_23 : decode cX8_keep 23 = .ok (.iload_n 1, 1) := by decide +kernel
theorem dX8_keep_24 : decode cX8_keep 24 = .ok (.lload 4, 2) := by decide +kernel
theorem dX8_keep_26 : decode cX8_keep 26 = .ok (.lload 6, 2) := by decide +kernel
theorem dX8_keep_28 : decode cX8_keep 28 = .ok (.ldiv, 1) := by decide +kernel
theorem dX8_keep_29 : decode cX8_keep 29 = .ok (.l2i, 1) := by decide +kernel
theorem dX8_keep_30 : decode cX8_keep 30 = .ok (.iastore, 1) := by decide +kernel
theorem dX8_keep_31 : decode cX8_keep 31 = .ok (.return_, 1) := by decide +kernel
abbrev po_X8_keep (cI cJ : ClassId) (hX8 : Nat) (aX8_ups : Nat) (aX8_downs : Nat) (m_many : Int) (aX8_row : Nat) (m_isSpent : Int) (m_found : Int) (aX8_sumMany : Nat) (aX8_sumShares : Nat) (aX8_sumSet : Nat) (aX8_taken : Nat) (aX8_restUp : Nat) (aX8_restDown : Nat) (m_fewest : Int) (m_wishes : Int) (aX8_wished : Nat) (aX8_far : Nat) (aX8_queue : Nat) (m_divided : Int) (aX8_divisors : Nat) (aX8_least : Nat) (m_pairOne : Int) (m_pairTwo : Int) (m_sumUp : Int) (m_sumDown : Int) (Q : (Int → Int) → (Int → Int) → Prop) : Option Value → va_W → Prop := fun rv w1 => ∃ (m_ups : Int → Int) (m_downs : Int → Int), rv = none ∧ w1 = [(hX8, .inr (7, [.ref aX8_ups, .ref aX8_downs, .int (i32 m_many), .ref aX8_row, .int (i32 m_isSpent), .int (i32 m_found), .ref aX8_sumMany, .ref aX8_sumShares, .ref aX8_sumSet, .ref aX8_taken, .ref aX8_restUp, .ref aX8_restDown, .int (i32 m_fewest), .int (i32 m_wishes), .ref aX8_wished, .ref aX8_far, .ref aX8_queue, .int (i32 m_divided), .ref aX8_divisors, .ref aX8_least, .long (i64 m_pairOne), .long (i64 m_pairTwo), .long (i64 m_sumUp), .long (i64 m_sumDown)])), (aX8_ups, aI cI 8 m_ups), (aX8_downs, aI cI 8 m_downs)] ∧ rr32 m_ups ∧ rr32 m_downs ∧ Q m_ups m_downs
def wp_X8_keep (Q : (Int → Int) → (Int → Int) → Prop) (m_ups : Int → Int) (m_downs : Int → Int) (l1 : Int) (l2 : Int) (l4 : Int) : Prop := wp_X8_gcd (fun (x3 : Int) => (0 < x3 ∧ r32 (l2.tdiv x3) ∧ ∀ x18 : Int, x18 = (l2.tdiv x3) → 0 ≤ l1 ∧ l1 < 8 ∧ 0 < x3 ∧ r32 (l4.tdiv x3) ∧ ∀ x30 : Int, x30 = (l4.tdiv x3) → 0 ≤ l1 ∧ l1 < 8 ∧ Q (ups m_ups l1 x18) (ups m_downs l1 x30))) l2 l4
set_option maxHeartbeats 4000000 in
set_option maxRecDepth 100000 in
theorem c_X8_keep (l : Launch) (D : va_G) (cI cJ : ClassId) (zt : Nat) (hX8 : Nat) (aX8_ups : Nat) (aX8_downs : Nat) (m_many : Int) (aX8_row : Nat) (m_isSpent : Int) (m_found : Int) (aX8_sumMany : Nat) (aX8_sumShares : Nat) (aX8_sumSet : Nat) (aX8_taken : Nat) (aX8_restUp : Nat) (aX8_restDown : Nat) (m_fewest : Int) (m_wishes : Int) (aX8_wished : Nat) (aX8_far : Nat) (aX8_queue : Nat) (m_divided : Int) (aX8_divisors : Nat) (aX8_least : Nat) (m_pairOne : Int) (m_pairTwo : Int) (m_sumUp : Int) (m_sumDown : Int) (m_ups : Int → Int) (m_downs : Int → Int) (l1 : Int) (l2 : Int) (l4 : Int) (Q : (Int → Int) → (Int → Int) → Prop) (r_m_ups : rr32 m_ups) (r_m_downs : rr32 m_downs) (r_l1 : r32 l1) (r_l2 : r64 l2) (r_l4 : r64 l4) (h : wp_X8_keep Q m_ups m_downs l1 l2 l4) : Ct l D cI cJ zt yX8_keep cX8_keep 8 none 2 0 0 [.ref hX8, .int (i32 l1), .long (i64 l2), .long (i64 l4)] [(hX8, .inr (7, [.ref aX8_ups, .ref aX8_downs, .int (i32 m_many), .ref aX8_row, .int (i32 m_isSpent), .int (i32 m_found), .ref aX8_sumMany, .ref aX8_sumShares, .ref aX8_sumSet, .ref aX8_taken, .ref aX8_restUp, .ref aX8_restDown, .int (i32 m_fewest), .int (i32 m_wishes), .ref aX8_wished, .ref aX8_far, .ref aX8_queue, .int (i32 m_divided), .ref aX8_divisors, .ref aX8_least, .long (i64 m_pairOne), .long (i64 m_pairTwo), .long (i64 m_sumUp), .long (i64 m_sumDown)])), (aX8_ups, aI cI 8 m_ups), (aX8_downs, aI cI 8 m_downs)] (po_X8_keep cI cJ hX8 aX8_ups aX8_downs m_many aX8_row m_isSpent m_found aX8_sumMany aX8_sumShares aX8_sumSet aX8_taken aX8_restUp aX8_restDown m_fewest m_wishes aX8_wished aX8_far aX8_queue m_divided aX8_divisors aX8_least m_pairOne m_pairTwo m_sumUp m_sumDown Q) := by
  refine ct_of (by decide +kernel) (Nat.le_of_ble_eq_true rfl) (fun X hl hDD hcI hcJ hzt hR hF hnm g => ?_)
  subst hl; subst hDD; subst hcI; subst hcJ; subst hzt
  show Wat X 0 0 0 [(0, .ref hX8), (1, .int (i32 l1)), (2, .long (i64 l2)), (4, .long (i64 l4))] [] [(hX8, .inr (7, [.ref aX8_ups, .ref aX8_downs, .int (i32 m_many), .ref aX8_row, .int (i32 m_isSpent), .int (i32 m_found), .ref aX8_sumMany, .ref aX8_sumShares, .ref aX8_sumSet, .ref aX8_taken, .ref aX8_restUp, .ref aX8_restDown, .int (i32 m_fewest), .int (i32 m_wishes), .ref aX8_wished, .ref aX8_far, .ref aX8_queue, .int (i32 m_divided), .ref aX8_divisors, .ref aX8_least, .long (i64 m_pairOne), .long (i64 m_pairTwo), .long (i64 m_sumUp), .long (i64 m_sumDown)])), (aX8_ups, aI X.cI 8 m_ups), (aX8_downs, aI X.cI 8 m_downs)]
  replace g : Gd X cX8_keep RX8 none 8 := g
  rw [wp_X8_keep] at h
  refine q_lload_n g 2 2 rfl dX8_keep_0 ?_
  refine q_lload g 4 3 rfl dX8_keep_1 ?_
  refine q_callS (lev := 1) (mc := 0) (ms := 0) (As := [.long (i64 l2), .long (i64 l4)]) g 64 (c_X8_gcd X.l X.D X.cI X.cJ X.zt l2 l4 _ r_l2 r_l4 h) (wr := [(hX8, .inr (7, [.ref aX8_ups, .ref aX8_downs, .int (i32 m_many), .ref aX8_row, .int (i32 m_isSpent), .int (i32 m_found), .ref aX8_sumMany, .ref aX8_sumShares, .ref aX8_sumSet, .ref aX8_taken, .ref aX8_restUp, .ref aX8_restDown, .int (i32 m_fewest), .int (i32 m_wishes), .ref aX8_wished, .ref aX8_far, .ref aX8_queue, .int (i32 m_divided), .ref aX8_divisors, .ref aX8_least, .long (i64 m_pairOne), .long (i64 m_pairTwo), .long (i64 m_sumUp), .long (i64 m_sumDown)])), (aX8_ups, aI X.cI 8 m_ups), (aX8_downs, aI X.cI 8 m_downs)]) [] [0, 1, 2] rfl rfl rfl (by decide) (by decide) (by decide) wM_X8_64 wT_X8_gcd wZ_X8 wC_X8_gcd 2 rfl (by decide +kernel) (by rw [hR]; exact ⟨by show 1 + 1 ≤ 2; omega, by show 8 + (10 + 11) + 100 * 1 ≤ 100 * 2; omega⟩) (by rw [hR]; exact ⟨Nat.le_refl _, Nat.le_refl _⟩) (Nat.le_of_ble_eq_true rfl) rfl dX8_keep_3 (fun rv w1 hq => ?_)
  obtain ⟨x3, rfl, rfl, rx3, h⟩ := hq
  show Wat X 0 0 6 [(0, .ref hX8), (1, .int (i32 l1)), (2, .long (i64 l2)), (4, .long (i64 l4))] [.long (i64 x3)] [(hX8, .inr (7, [.ref aX8_ups, .ref aX8_downs, .int (i32 m_many), .ref aX8_row, .int (i32 m_isSpent), .int (i32 m_found), .ref aX8_sumMany, .ref aX8_sumShares, .ref aX8_sumSet, .ref aX8_taken, .ref aX8_restUp, .ref aX8_restDown, .int (i32 m_fewest), .int (i32 m_wishes), .ref aX8_wished, .ref aX8_far, .ref aX8_queue, .int (i32 m_divided), .ref aX8_divisors, .ref aX8_least, .long (i64 m_pairOne), .long (i64 m_pairTwo), .long (i64 m_sumUp), .long (i64 m_sumDown)])), (aX8_ups, aI X.cI 8 m_ups), (aX8_downs, aI X.cI 8 m_downs)]
  refine q_lstore (lv' := [(6, .long (i64 x3)), (0, .ref hX8), (1, .int (i32 l1)), (2, .long (i64 l2)), (4, .long (i64 l4))]) g 6   (by decide) rfl dX8_keep_6 ?_
  refine q_aload_n g 0 1 rfl dX8_keep_8 ?_
  refine q_get (C := RX8) (T := TX8) (N := 24) g 7 inX8 0 0 rfl rfl (by decide) wF_X8_7 rfl dX8_keep_9 ?_
  refine q_iload_n g 1 2 rfl dX8_keep_12 ?_
  refine q_lload_n g 2 3 rfl dX8_keep_13 ?_
  refine q_lload g 6 0 rfl dX8_keep_14 ?_
  obtain ⟨c16, h⟩ := h
  refine q_ldiv g r_l2 rx3 (ne_of_pos c16) dX8_keep_16 ?_
  obtain ⟨c17, h⟩ := h
  refine q_l2i g dX8_keep_17 ?_
  refine q_topi c17 (fun x18 ex18 rx18 => ?_)
  replace h := h x18 ex18
  obtain ⟨c18, h⟩ := h
  obtain ⟨e18, h⟩ := h
  refine q_iast (ws' := [(hX8, .inr (7, [.ref aX8_ups, .ref aX8_downs, .int (i32 m_many), .ref aX8_row, .int (i32 m_isSpent), .int (i32 m_found), .ref aX8_sumMany, .ref aX8_sumShares, .ref aX8_sumSet, .ref aX8_taken, .ref aX8_restUp, .ref aX8_restDown, .int (i32 m_fewest), .int (i32 m_wishes), .ref aX8_wished, .ref aX8_far, .ref aX8_queue, .int (i32 m_divided), .ref aX8_divisors, .ref aX8_least, .long (i64 m_pairOne), .long (i64 m_pairTwo), .long (i64 m_sumUp), .long (i64 m_sumDown)])), (aX8_ups, aI X.cI 8 (ups m_ups l1 x18)), (aX8_downs, aI X.cI 8 m_downs)]) g 1 rfl c18 e18 (by decide) rfl dX8_keep_18 ?_
  refine q_aload_n g 0 1 rfl dX8_keep_19 ?_
  refine q_get (C := RX8) (T := TX8) (N := 24) g 13 inX8 0 1 rfl rfl (by decide) wF_X8_13 rfl dX8_keep_20 ?_
  refine q_iload_n g 1 2 rfl dX8_keep_23 ?_
  refine q_lload g 4 4 rfl dX8_keep_24 ?_
  refine q_lload g 6 0 rfl dX8_keep_26 ?_
  obtain ⟨c28, h⟩ := h
  refine q_ldiv g r_l4 rx3 (ne_of_pos c28) dX8_keep_28 ?_
  obtain ⟨c29, h⟩ := h
  refine q_l2i g dX8_keep_29 ?_
  refine q_topi c29 (fun x30 ex30 rx30 => ?_)
  replace h := h x30 ex30
  obtain ⟨c30, h⟩ := h
  obtain ⟨e30, h⟩ := h
  refine q_iast (ws' := [(hX8, .inr (7, [.ref aX8_ups, .ref aX8_downs, .int (i32 m_many), .ref aX8_row, .int (i32 m_isSpent), .int (i32 m_found), .ref aX8_sumMany, .ref aX8_sumShares, .ref aX8_sumSet, .ref aX8_taken, .ref aX8_restUp, .ref aX8_restDown, .int (i32 m_fewest), .int (i32 m_wishes), .ref aX8_wished, .ref aX8_far, .ref aX8_queue, .int (i32 m_divided), .ref aX8_divisors, .ref aX8_least, .long (i64 m_pairOne), .long (i64 m_pairTwo), .long (i64 m_sumUp), .long (i64 m_sumDown)])), (aX8_ups, aI X.cI 8 (ups m_ups l1 x18)), (aX8_downs, aI X.cI 8 (ups m_downs l1 x30))]) g 2 rfl c30 e30 (by decide) rfl dX8_keep_30 ?_
  exact q_vret g hF ⟨(ups m_ups l1 x18), (ups m_downs l1 x30), rfl, rfl, (rr32_u r_m_ups rx18), (rr32_u r_m_downs rx30), h⟩ dX8_keep_31
theorem dX8_hold_0 : decode cX8_hold 0 = .ok (.iload_n 1, 1) := by decide +kernel
theorem dX8_hold_1 : decode cX8_hold 1 = .ok (.invokestatic 68, 3) := by decide +kernel
theorem dX8_hold_4 : decode cX8_hold 4 = .ok (.ifCond .eq 27, 3) := by decide +kernel
theorem dX8_hold_7 : decode cX8_hold 7 = .ok (.iload_n 2, 1) := by decide +kernel
theorem dX8_hold_8 : decode cX8_hold 8 = .ok (.i2l, 1) := by decide +kernel
theorem dX8_hold_9 : decode cX8_hold 9 = .ok (.lconst 0, 1) := by decide +kernel
theorem dX8_hold_10 : decode cX8_hold 10 = .ok (.ldc2_w 72, 3) := by decide +kernel
theorem dX8_hold_13 : decode cX8_hold 13 = .ok (.invokestatic 60, 3) := by decide +kernel
theorem dX8_hold_16 : decode cX8_hold 16 = .ok (.ifCond .eq 15, 3) := by decide +kernel
theorem dX8_hold_19 : decode cX8_hold 19 = .ok (.iload_n 3, 1) := by decide +kernel
theorem dX8_hold_20 : decode cX8_hold 20 = .ok (.i2l, 1) := by decide +kernel
theorem dX8_hold_21 : decode cX8_hold 21 = .ok (.lconst 1, 1) := by decide +kernel
theorem dX8_hold_22 : decode cX8_hold 22 = .ok (.ldc2_w 72, 3) := by decide +kernel
theorem dX8_hold_25 : decode cX8_hold 25 = .ok (.invokestatic 60, 3) := by decide +kernel
theorem dX8_hold_28 : decode cX8_hold 28 = .ok (.ifCond .ne 5, 3) := by decide +kernel
theorem dX8_hold_31 : decode cX8_hold 31 = .ok (.iconst (-1), 1) := by decide +kernel
theorem dX8_hold_32 : decode cX8_hold 32 = .ok (.ireturn, 1) := by decide +kernel
theorem dX8_hold_33 : decode cX8_hold 33 = .ok (.aload_n 0, 1) := by decide +kernel
theorem dX8_hold_34 : decode cX8_hold 34 = .ok (.iload_n 1, 1) := by decide +kernel
theorem dX8_hold_35 : decode cX8_hold 35 = .ok (.iload_n 2, 1) := by decide +kernel
theorem dX8_hold_36 : decode cX8_hold 36 = .ok (.i2l, 1) := by decide +kernel
theorem dX8_hold_37 : decode cX8_hold 37 = .ok (.iload_n 3, 1) := by decide +kernel
theorem dX8_hold_38 : decode cX8_hold 38 = .ok (.i2l, 1) := by decide +kernel
theorem dX8_hold_39 : decode cX8_hold 39 = .ok (.invokevirtual 74, 3) := by decide +kernel
theorem dX8_hold_42 : decode cX8_hold 42 = .ok (.iconst 0, 1) := by decide +kernel
theorem dX8_hold_43 : decode cX8_hold 43 = .ok (.ireturn, 1) := by decide +kernel
abbrev po_X8_hold (cI cJ : ClassId) (hX8 : Nat) (aX8_ups : Nat) (aX8_downs : Nat) (m_many : Int) (aX8_row : Nat) (m_isSpent : Int) (m_found : Int) (aX8_sumMany : Nat) (aX8_sumShares : Nat) (aX8_sumSet : Nat) (aX8_taken : Nat) (aX8_restUp : Nat) (aX8_restDown : Nat) (m_fewest : Int) (m_wishes : Int) (aX8_wished : Nat) (aX8_far : Nat) (aX8_queue : Nat) (m_divided : Int) (aX8_divisors : Nat) (aX8_least : Nat) (m_pairOne : Int) (m_pairTwo : Int) (m_sumUp : Int) (m_sumDown : Int) (Q : Int → (Int → Int) → (Int → Int) → Prop) : Option Value → va_W → Prop := fun rv w1 => ∃ (r0 : Int) (m_ups : Int → Int) (m_downs : Int → Int), rv = some (.int (i32 r0)) ∧ w1 = [(hX8, .inr (7, [.ref aX8_ups, .ref aX8_downs, .int (i32 m_many), .ref aX8_row, .int (i32 m_isSpent), .int (i32 m_found), .ref aX8_sumMany, .ref aX8_sumShares, .ref aX8_sumSet, .ref aX8_taken, .ref aX8_restUp, .ref aX8_restDown, .int (i32 m_fewest), .int (i32 m_wishes), .ref aX8_wished, .ref aX8_far, .ref aX8_queue, .int (i32 m_divided), .ref aX8_divisors, .ref aX8_least, .long (i64 m_pairOne), .long (i64 m_pairTwo), .long (i64 m_sumUp), .long (i64 m_sumDown)])), (aX8_ups, aI cI 8 m_ups), (aX8_downs, aI cI 8 m_downs)] ∧ r32 r0 ∧ rr32 m_ups ∧ rr32 m_downs ∧ Q r0 m_ups m_downs
def wp_X8_hold_31 (Q : Int → (Int → Int) → (Int → Int) → Prop) (m_ups : Int → Int) (m_downs : Int → Int) : Prop := Q (-1) m_ups m_downs
set_option maxHeartbeats 4000000 in
set_option maxRecDepth 100000 in
theorem s_X8_hold_31 {X : Cx} (g : Gd X cX8_hold RX8 (some .int) 4) (hR : X.R = rmL 3 0 0) (hX8 : Nat) (aX8_ups : Nat) (aX8_downs : Nat) (m_many : Int) (aX8_row : Nat) (m_isSpent : Int) (m_found : Int) (aX8_sumMany : Nat) (aX8_sumShares : Nat) (aX8_sumSet : Nat) (aX8_taken : Nat) (aX8_restUp : Nat) (aX8_restDown : Nat) (m_fewest : Int) (m_wishes : Int) (aX8_wished : Nat) (aX8_far : Nat) (aX8_queue : Nat) (m_divided : Int) (aX8_divisors : Nat) (aX8_least : Nat) (m_pairOne : Int) (m_pairTwo : Int) (m_sumUp : Int) (m_sumDown : Int) (Q : Int → (Int → Int) → (Int → Int) → Prop) (hF : FQ X 0 0 (po_X8_hold X.cI X.cJ hX8 aX8_ups aX8_downs m_many aX8_row m_isSpent m_found aX8_sumMany aX8_sumShares aX8_sumSet aX8_taken aX8_restUp aX8_restDown m_fewest m_wishes aX8_wished aX8_far aX8_queue m_divided aX8_divisors aX8_least m_pairOne m_pairTwo m_sumUp m_sumDown Q)) : ∀ (m_ups : Int → Int) (m_downs : Int → Int), rr32 m_ups → rr32 m_downs → wp_X8_hold_31 Q m_ups m_downs → Wat X 0 0 31 [] [] [(hX8, .inr (7, [.ref aX8_ups, .ref aX8_downs, .int (i32 m_many), .ref aX8_row, .int (i32 m_isSpent), .int (i32 m_found), .ref aX8_sumMany, .ref aX8_sumShares, .ref aX8_sumSet, .ref aX8_taken, .ref aX8_restUp, .ref aX8_restDown, .int (i32 m_fewest), .int (i32 m_wishes), .ref aX8_wished, .ref aX8_far, .ref aX8_queue, .int (i32 m_divided), .ref aX8_divisors, .ref aX8_least, .long (i64 m_pairOne), .long (i64 m_pairTwo), .long (i64 m_sumUp), .long (i64 m_sumDown)])), (aX8_ups, aI X.cI 8 m_ups), (aX8_downs, aI X.cI 8 m_downs)] := by
  intro m_ups m_downs r_m_ups r_m_downs h
  rw [wp_X8_hold_31] at h
  refine q_iconst g (-1) dX8_hold_31 ?_
  exact q_iret g hF ⟨(-1), m_ups, m_downs, rfl, rfl, (r32_lit _ (by decide)), r_m_ups, r_m_downs, h⟩ dX8_hold_32
def wp_X8_hold (Q : Int → (Int → Int) → (Int → Int) → Prop) (m_ups : Int → Int) (m_downs : Int → Int) (l1 : Int) (l2 : Int) (l3 : Int) : Prop := wp_X8_isRegister (fun (x1 : Int) => ((x1 = 0 → wp_X8_hold_31 Q m_ups m_downs) ∧
  (¬ (x1 = 0) → wp_X8_in (fun (x13 : Int) => ((x13 = 0 → wp_X8_hold_31 Q m_ups m_downs) ∧
  (¬ (x13 = 0) → wp_X8_in (fun (x25 : Int) => ((¬ x25 = 0 → wp_X8_keep (fun (m_ups_39 : Int → Int) (m_downs_39 : Int → Int) => Q 0 m_ups_39 m_downs_39) m_ups m_downs l1 l2 l3) ∧
  (x25 = 0 → wp_X8_hold_31 Q m_ups m_downs))) l3 1 1000000))) l2 0 1000000))) l1
set_option maxHeartbeats 4000000 in
set_option maxRecDepth 100000 in
theorem c_X8_hold (l : Launch) (D : va_G) (cI cJ : ClassId) (zt : Nat) (hX8 : Nat) (aX8_ups : Nat) (aX8_downs : Nat) (m_many : Int) (aX8_row : Nat) (m_isSpent : Int) (m_found : Int) (aX8_sumMany : Nat) (aX8_sumShares : Nat) (aX8_sumSet : Nat) (aX8_taken : Nat) (aX8_restUp : Nat) (aX8_restDown : Nat) (m_fewest : Int) (m_wishes : Int) (aX8_wished : Nat) (aX8_far : Nat) (aX8_queue : Nat) (m_divided : Int) (aX8_divisors : Nat) (aX8_least : Nat) (m_pairOne : Int) (m_pairTwo : Int) (m_sumUp : Int) (m_sumDown : Int) (m_ups : Int → Int) (m_downs : Int → Int) (l1 : Int) (l2 : Int) (l3 : Int) (Q : Int → (Int → Int) → (Int → Int) → Prop) (r_m_ups : rr32 m_ups) (r_m_downs : rr32 m_downs) (r_l1 : r32 l1) (r_l2 : r32 l2) (r_l3 : r32 l3) (h : wp_X8_hold Q m_ups m_downs l1 l2 l3) : Ct l D cI cJ zt yX8_hold cX8_hold 4 (some .int) 3 0 0 [.ref hX8, .int (i32 l1), .int (i32 l2), .int (i32 l3)] [(hX8, .inr (7, [.ref aX8_ups, .ref aX8_downs, .int (i32 m_many), .ref aX8_row, .int (i32 m_isSpent), .int (i32 m_found), .ref aX8_sumMany, .ref aX8_sumShares, .ref aX8_sumSet, .ref aX8_taken, .ref aX8_restUp, .ref aX8_restDown, .int (i32 m_fewest), .int (i32 m_wishes), .ref aX8_wished, .ref aX8_far, .ref aX8_queue, .int (i32 m_divided), .ref aX8_divisors, .ref aX8_least, .long (i64 m_pairOne), .long (i64 m_pairTwo), .long (i64 m_sumUp), .long (i64 m_sumDown)])), (aX8_ups, aI cI 8 m_ups), (aX8_downs, aI cI 8 m_downs)] (po_X8_hold cI cJ hX8 aX8_ups aX8_downs m_many aX8_row m_isSpent m_found aX8_sumMany aX8_sumShares aX8_sumSet aX8_taken aX8_restUp aX8_restDown m_fewest m_wishes aX8_wished aX8_far aX8_queue m_divided aX8_divisors aX8_least m_pairOne m_pairTwo m_sumUp m_sumDown Q) := by
  refine ct_of (by decide +kernel) (Nat.le_of_ble_eq_true rfl) (fun X hl hDD hcI hcJ hzt hR hF hnm g => ?_)
  subst hl; subst hDD; subst hcI; subst hcJ; subst hzt
  show Wat X 0 0 0 [(0, .ref hX8), (1, .int (i32 l1)), (2, .int (i32 l2)), (3, .int (i32 l3))] [] [(hX8, .inr (7, [.ref aX8_ups, .ref aX8_downs, .int (i32 m_many), .ref aX8_row, .int (i32 m_isSpent), .int (i32 m_found), .ref aX8_sumMany, .ref aX8_sumShares, .ref aX8_sumSet, .ref aX8_taken, .ref aX8_restUp, .ref aX8_restDown, .int (i32 m_fewest), .int (i32 m_wishes), .ref aX8_wished, .ref aX8_far, .ref aX8_queue, .int (i32 m_divided), .ref aX8_divisors, .ref aX8_least, .long (i64 m_pairOne), .long (i64 m_pairTwo), .long (i64 m_sumUp), .long (i64 m_sumDown)])), (aX8_ups, aI X.cI 8 m_ups), (aX8_downs, aI X.cI 8 m_downs)]
  replace g : Gd X cX8_hold RX8 (some .int) 4 := g
  rw [wp_X8_hold] at h
  refine q_iload_n g 1 1 rfl dX8_hold_0 ?_
  refine q_callS (lev := 2) (mc := 0) (ms := 0) (As := [.int (i32 l1)]) g 68 (c_X8_isRegister X.l X.D X.cI X.cJ X.zt l1 _ r_l1 h) (wr := [(hX8, .inr (7, [.ref aX8_ups, .ref aX8_downs, .int (i32 m_many), .ref aX8_row, .int (i32 m_isSpent), .int (i32 m_found), .ref aX8_sumMany, .ref aX8_sumShares, .ref aX8_sumSet, .ref aX8_taken, .ref aX8_restUp, .ref aX8_restDown, .int (i32 m_fewest), .int (i32 m_wishes), .ref aX8_wished, .ref aX8_far, .ref aX8_queue, .int (i32 m_divided), .ref aX8_divisors, .ref aX8_least, .long (i64 m_pairOne), .long (i64 m_pairTwo), .long (i64 m_sumUp), .long (i64 m_sumDown)])), (aX8_ups, aI X.cI 8 m_ups), (aX8_downs, aI X.cI 8 m_downs)]) [] [0, 1, 2] rfl rfl rfl (by decide) (by decide) (by decide) wM_X8_68 wT_X8_isRegister wZ_X8 wC_X8_isRegister 1 rfl (by decide +kernel) (by rw [hR]; exact ⟨by show 2 + 1 ≤ 3; omega, by show 8 + (1 + 11) + 100 * 2 ≤ 100 * 3; omega⟩) (by rw [hR]; exact ⟨Nat.le_refl _, Nat.le_refl _⟩) (Nat.le_of_ble_eq_true rfl) rfl dX8_hold_1 (fun rv w1 hq => ?_)
  obtain ⟨x1, rfl, rfl, rx1, h⟩ := hq
  show Wat X 0 0 4 [(0, .ref hX8), (1, .int (i32 l1)), (2, .int (i32 l2)), (3, .int (i32 l3))] [.int (i32 x1)] [(hX8, .inr (7, [.ref aX8_ups, .ref aX8_downs, .int (i32 m_many), .ref aX8_row, .int (i32 m_isSpent), .int (i32 m_found), .ref aX8_sumMany, .ref aX8_sumShares, .ref aX8_sumSet, .ref aX8_taken, .ref aX8_restUp, .ref aX8_restDown, .int (i32 m_fewest), .int (i32 m_wishes), .ref aX8_wished, .ref aX8_far, .ref aX8_queue, .int (i32 m_divided), .ref aX8_divisors, .ref aX8_least, .long (i64 m_pairOne), .long (i64 m_pairTwo), .long (i64 m_sumUp), .long (i64 m_sumDown)])), (aX8_ups, aI X.cI 8 m_ups), (aX8_downs, aI X.cI 8 m_downs)]
  refine q_if_eq g (27) 31 rx1 (by decide) dX8_hold_4 (fun b4 => ?_) (fun b4 => ?_)
  · replace h := h.1 b4
    refine q_lv (lv' := []) [] rfl ?_
    exact s_X8_hold_31 g hR hX8 aX8_ups aX8_downs m_many aX8_row m_isSpent m_found aX8_sumMany aX8_sumShares aX8_sumSet aX8_taken aX8_restUp aX8_restDown m_fewest m_wishes aX8_wished aX8_far aX8_queue m_divided aX8_divisors aX8_least m_pairOne m_pairTwo m_sumUp m_sumDown Q hF m_ups m_downs r_m_ups r_m_downs h
  replace h := h.2 b4
  refine q_iload_n g 2 2 rfl dX8_hold_7 ?_
  refine q_i2l g r_l2 dX8_hold_8 ?_
  refine q_lconst g 0 0 rfl dX8_hold_9 ?_
  refine q_ldc2 (w := 1000000) g 72 (1000000) (by decide +kernel) wL_X8_72 dX8_hold_10 ?_
  refine q_callS (lev := 1) (mc := 0) (ms := 0) (As := [.long (i64 l2), .long (i64 0), .long (i64 1000000)]) g 60 (c_X8_in X.l X.D X.cI X.cJ X.zt l2 0 1000000 _ (r32_64 r_l2) (r64_lit _ (by decide)) (r64_lit _ (by decide)) h) (wr := [(hX8, .inr (7, [.ref aX8_ups, .ref aX8_downs, .int (i32 m_many), .ref aX8_row, .int (i32 m_isSpent), .int (i32 m_found), .ref aX8_sumMany, .ref aX8_sumShares, .ref aX8_sumSet, .ref aX8_taken, .ref aX8_restUp, .ref aX8_restDown, .int (i32 m_fewest), .int (i32 m_wishes), .ref aX8_wished, .ref aX8_far, .ref aX8_queue, .int (i32 m_divided), .ref aX8_divisors, .ref aX8_least, .long (i64 m_pairOne), .long (i64 m_pairTwo), .long (i64 m_sumUp), .long (i64 m_sumDown)])), (aX8_ups, aI X.cI 8 m_ups), (aX8_downs, aI X.cI 8 m_downs)]) [] [0, 1, 2] rfl rfl rfl (by decide) (by decide) (by decide) wM_X8_60 wT_X8_in wZ_X8 wC_X8_in 3 rfl (by decide +kernel) (by rw [hR]; exact ⟨by show 1 + 1 ≤ 3; omega, by show 8 + (6 + 11) + 100 * 1 ≤ 100 * 3; omega⟩) (by rw [hR]; exact ⟨Nat.le_refl _, Nat.le_refl _⟩) (Nat.le_of_ble_eq_true rfl) rfl dX8_hold_13 (fun rv w1 hq => ?_)
  obtain ⟨x13, rfl, rfl, rx13, h⟩ := hq
  show Wat X 0 0 16 [(0, .ref hX8), (1, .int (i32 l1)), (2, .int (i32 l2)), (3, .int (i32 l3))] [.int (i32 x13)] [(hX8, .inr (7, [.ref aX8_ups, .ref aX8_downs, .int (i32 m_many), .ref aX8_row, .int (i32 m_isSpent), .int (i32 m_found), .ref aX8_sumMany, .ref aX8_sumShares, .ref aX8_sumSet, .ref aX8_taken, .ref aX8_restUp, .ref aX8_restDown, .int (i32 m_fewest), .int (i32 m_wishes), .ref aX8_wished, .ref aX8_far, .ref aX8_queue, .int (i32 m_divided), .ref aX8_divisors, .ref aX8_least, .long (i64 m_pairOne), .long (i64 m_pairTwo), .long (i64 m_sumUp), .long (i64 m_sumDown)])), (aX8_ups, aI X.cI 8 m_ups), (aX8_downs, aI X.cI 8 m_downs)]
  refine q_if_eq g (15) 31 rx13 (by decide) dX8_hold_16 (fun b16 => ?_) (fun b16 => ?_)
  · replace h := h.1 b16
    refine q_lv (lv' := []) [] rfl ?_
    exact s_X8_hold_31 g hR hX8 aX8_ups aX8_downs m_many aX8_row m_isSpent m_found aX8_sumMany aX8_sumShares aX8_sumSet aX8_taken aX8_restUp aX8_restDown m_fewest m_wishes aX8_wished aX8_far aX8_queue m_divided aX8_divisors aX8_least m_pairOne m_pairTwo m_sumUp m_sumDown Q hF m_ups m_downs r_m_ups r_m_downs h
  replace h := h.2 b16
  refine q_iload_n g 3 3 rfl dX8_hold_19 ?_
  refine q_i2l g r_l3 dX8_hold_20 ?_
  refine q_lconst g 1 1 rfl dX8_hold_21 ?_
  refine q_ldc2 (w := 1000000) g 72 (1000000) (by decide +kernel) wL_X8_72 dX8_hold_22 ?_
  refine q_callS (lev := 1) (mc := 0) (ms := 0) (As := [.long (i64 l3), .long (i64 1), .long (i64 1000000)]) g 60 (c_X8_in X.l X.D X.cI X.cJ X.zt l3 1 1000000 _ (r32_64 r_l3) (r64_lit _ (by decide)) (r64_lit _ (by decide)) h) (wr := [(hX8, .inr (7, [.ref aX8_ups, .ref aX8_downs, .int (i32 m_many), .ref aX8_row, .int (i32 m_isSpent), .int (i32 m_found), .ref aX8_sumMany, .ref aX8_sumShares, .ref aX8_sumSet, .ref aX8_taken, .ref aX8_restUp, .ref aX8_restDown, .int (i32 m_fewest), .int (i32 m_wishes), .ref aX8_wished, .ref aX8_far, .ref aX8_queue, .int (i32 m_divided), .ref aX8_divisors, .ref aX8_least, .long (i64 m_pairOne), .long (i64 m_pairTwo), .long (i64 m_sumUp), .long (i64 m_sumDown)])), (aX8_ups, aI X.cI 8 m_ups), (aX8_downs, aI X.cI 8 m_downs)]) [] [0, 1, 2] rfl rfl rfl (by decide) (by decide) (by decide) wM_X8_60 wT_X8_in wZ_X8 wC_X8_in 3 rfl (by decide +kernel) (by rw [hR]; exact ⟨by show 1 + 1 ≤ 3; omega, by show 8 + (6 + 11) + 100 * 1 ≤ 100 * 3; omega⟩) (by rw [hR]; exact ⟨Nat.le_refl _, Nat.le_refl _⟩) (Nat.le_of_ble_eq_true rfl) rfl dX8_hold_25 (fun rv w1 hq => ?_)
  obtain ⟨x25, rfl, rfl, rx25, h⟩ := hq
  show Wat X 0 0 28 [(0, .ref hX8), (1, .int (i32 l1)), (2, .int (i32 l2)), (3, .int (i32 l3))] [.int (i32 x25)] [(hX8, .inr (7, [.ref aX8_ups, .ref aX8_downs, .int (i32 m_many), .ref aX8_row, .int (i32 m_isSpent), .int (i32 m_found), .ref aX8_sumMany, .ref aX8_sumShares, .ref aX8_sumSet, .ref aX8_taken, .ref aX8_restUp, .ref aX8_restDown, .int (i32 m_fewest), .int (i32 m_wishes), .ref aX8_wished, .ref aX8_far, .ref aX8_queue, .int (i32 m_divided), .ref aX8_divisors, .ref aX8_least, .long (i64 m_pairOne), .long (i64 m_pairTwo), .long (i64 m_sumUp), .long (i64 m_sumDown)])), (aX8_ups, aI X.cI 8 m_ups), (aX8_downs, aI X.cI 8 m_downs)]
  refine q_if_ne g (5) 33 rx25 (by decide) dX8_hold_28 (fun b28 => ?_) (fun b28 => ?_)
  · replace h := h.1 b28
    refine q_aload_n g 0 0 rfl dX8_hold_33 ?_
    refine q_iload_n g 1 1 rfl dX8_hold_34 ?_
    refine q_iload_n g 2 2 rfl dX8_hold_35 ?_
    refine q_i2l g r_l2 dX8_hold_36 ?_
    refine q_iload_n g 3 3 rfl dX8_hold_37 ?_
    refine q_i2l g r_l3 dX8_hold_38 ?_
    refine q_callV (lev := 2) (mc := 0) (ms := 0) g 74 (c_X8_keep X.l X.D X.cI X.cJ X.zt hX8 aX8_ups aX8_downs m_many aX8_row m_isSpent m_found aX8_sumMany aX8_sumShares aX8_sumSet aX8_taken aX8_restUp aX8_restDown m_fewest m_wishes aX8_wished aX8_far aX8_queue m_divided aX8_divisors aX8_least m_pairOne m_pairTwo m_sumUp m_sumDown m_ups m_downs l1 l2 l3 _ r_m_ups r_m_downs r_l1 (r32_64 r_l2) (r32_64 r_l3) h) (wr := []) [0, 1, 2] [] rfl rfl rfl (by decide) (by decide) (by decide) (ci := 7) rfl rfl rfl wM_X8_74 wI_X8_keep wS_X8_keep wZ_X8 wC_X8_keep 3 rfl (by decide +kernel) (by rw [hR]; exact ⟨by show 2 + 1 ≤ 3; omega, by show 8 + (8 + 11) + 100 * 2 ≤ 100 * 3; omega⟩) (by rw [hR]; exact ⟨Nat.le_refl _, Nat.le_refl _⟩) (Nat.le_of_ble_eq_true rfl) rfl dX8_hold_39 (fun rv w1 hq => ?_)
    obtain ⟨m_ups_39, m_downs_39, rfl, rfl, rm_ups_39, rm_downs_39, h⟩ := hq
    show Wat X 0 0 42 [(0, .ref hX8), (1, .int (i32 l1)), (2, .int (i32 l2)), (3, .int (i32 l3))] [] [(hX8, .inr (7, [.ref aX8_ups, .ref aX8_downs, .int (i32 m_many), .ref aX8_row, .int (i32 m_isSpent), .int (i32 m_found), .ref aX8_sumMany, .ref aX8_sumShares, .ref aX8_sumSet, .ref aX8_taken, .ref aX8_restUp, .ref aX8_restDown, .int (i32 m_fewest), .int (i32 m_wishes), .ref aX8_wished, .ref aX8_far, .ref aX8_queue, .int (i32 m_divided), .ref aX8_divisors, .ref aX8_least, .long (i64 m_pairOne), .long (i64 m_pairTwo), .long (i64 m_sumUp), .long (i64 m_sumDown)])), (aX8_ups, aI X.cI 8 m_ups_39), (aX8_downs, aI X.cI 8 m_downs_39)]
    refine q_iconst g (0) dX8_hold_42 ?_
    exact q_iret g hF ⟨0, m_ups_39, m_downs_39, rfl, rfl, (r32_lit _ (by decide)), rm_ups_39, rm_downs_39, h⟩ dX8_hold_43
  replace h := h.2 b28
  refine q_lv (lv' := []) [] rfl ?_
  exact s_X8_hold_31 g hR hX8 aX8_ups aX8_downs m_many aX8_row m_isSpent m_found aX8_sumMany aX8_sumShares aX8_sumSet aX8_taken aX8_restUp aX8_restDown m_fewest m_wishes aX8_wished aX8_far aX8_queue m_divided aX8_divisors aX8_least m_pairOne m_pairTwo m_sumUp m_sumDown Q hF m_ups m_downs r_m_ups r_m_downs h
