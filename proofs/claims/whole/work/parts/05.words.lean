theorem tw_1_31 : Cond.methodLink RX2 1 objectInit ∈ g_T := List.mem_filter.mpr ⟨List.mem_append_right _ (List.mem_append_left _ (List.mem_of_getElem? (i := 31) rfl)), rfl⟩
theorem tw_1_16 : Cond.instanceMethod objectInit ∈ g_T := List.mem_filter.mpr ⟨List.mem_append_right _ (List.mem_append_left _ (List.mem_of_getElem? (i := 16) rfl)), rfl⟩
theorem tw_1_17 : Cond.code objectInit ⟨#[0xb1]⟩ 1 none ∈ g_T := List.mem_filter.mpr ⟨List.mem_append_right _ (List.mem_append_left _ (List.mem_of_getElem? (i := 17) rfl)), rfl⟩
theorem tw_1_32 : Cond.fieldLink RX2 9 "SpreadRules$Real" "kind" "I" ∈ g_T := List.mem_filter.mpr ⟨List.mem_append_right _ (List.mem_append_left _ (List.mem_of_getElem? (i := 32) rfl)), rfl⟩
theorem tw_1_34 : Cond.fieldLink RX2 13 "SpreadRules$Real" "negative" "Z" ∈ g_T := List.mem_filter.mpr ⟨List.mem_append_right _ (List.mem_append_left _ (List.mem_of_getElem? (i := 34) rfl)), rfl⟩
theorem tw_1_36 : Cond.fieldLink RX2 17 "SpreadRules$Real" "significand" "J" ∈ g_T := List.mem_filter.mpr ⟨List.mem_append_right _ (List.mem_append_left _ (List.mem_of_getElem? (i := 36) rfl)), rfl⟩
theorem tw_1_37 : Cond.fieldLink RX2 21 "SpreadRules$Real" "exponent" "I" ∈ g_T := List.mem_filter.mpr ⟨List.mem_append_right _ (List.mem_append_left _ (List.mem_of_getElem? (i := 37) rfl)), rfl⟩
theorem tw_1_30 : Cond.code yX2_init cX2_init 1 none ∈ g_T := List.mem_filter.mpr ⟨List.mem_append_right _ (List.mem_append_left _ (List.mem_of_getElem? (i := 30) rfl)), rfl⟩
theorem tw_1_3 : Cond.initialized RX2 ∈ g_T := List.mem_filter.mpr ⟨List.mem_append_right _ (List.mem_append_left _ (List.mem_of_getElem? (i := 3) rfl)), rfl⟩
theorem tw_1_25 : Cond.methodLink RX0 1 objectInit ∈ g_T := List.mem_filter.mpr ⟨List.mem_append_right _ (List.mem_append_left _ (List.mem_of_getElem? (i := 25) rfl)), rfl⟩
theorem tw_1_26 : Cond.classLink RX0 7 RX2 ∈ g_T := List.mem_filter.mpr ⟨List.mem_append_right _ (List.mem_append_left _ (List.mem_of_getElem? (i := 26) rfl)), rfl⟩
theorem tw_1_27 : Cond.instantiable RX2 4 ∈ g_T := List.mem_filter.mpr ⟨List.mem_append_right _ (List.mem_append_left _ (List.mem_of_getElem? (i := 27) rfl)), rfl⟩
theorem tw_1_29 : Cond.instanceMethod yX2_init ∈ g_T := List.mem_filter.mpr ⟨List.mem_append_right _ (List.mem_append_left _ (List.mem_of_getElem? (i := 29) rfl)), rfl⟩
theorem tw_1_47 : Cond.fieldLink RX0 10 "SpreadRules$Arithmetic" "left" "LSpreadRules$Real;" ∈ g_T := List.mem_filter.mpr ⟨List.mem_append_right _ (List.mem_append_left _ (List.mem_of_getElem? (i := 47) rfl)), rfl⟩
theorem tw_1_48 : Cond.fieldLink RX0 16 "SpreadRules$Arithmetic" "right" "LSpreadRules$Real;" ∈ g_T := List.mem_filter.mpr ⟨List.mem_append_right _ (List.mem_append_left _ (List.mem_of_getElem? (i := 48) rfl)), rfl⟩
theorem tw_1_49 : Cond.fieldLink RX0 19 "SpreadRules$Arithmetic" "result" "LSpreadRules$Real;" ∈ g_T := List.mem_filter.mpr ⟨List.mem_append_right _ (List.mem_append_left _ (List.mem_of_getElem? (i := 49) rfl)), rfl⟩
theorem tw_1_24 : Cond.code yX0_init cX0_init 1 none ∈ g_T := List.mem_filter.mpr ⟨List.mem_append_right _ (List.mem_append_left _ (List.mem_of_getElem? (i := 24) rfl)), rfl⟩
theorem tw_1_2 : Cond.initialized RX0 ∈ g_T := List.mem_filter.mpr ⟨List.mem_append_right _ (List.mem_append_left _ (List.mem_of_getElem? (i := 2) rfl)), rfl⟩
theorem tw_1_237 : Cond.code yX0_isAct cX0_isAct 1 (some .boolean) ∈ g_T := List.mem_filter.mpr ⟨List.mem_append_right _ (List.mem_append_left _ (List.mem_of_getElem? (i := 237) rfl)), rfl⟩
theorem tw_2_220 : Cond.code yX0_isOfOne cX0_isOfOne 1 (some .boolean) ∈ g_T := List.mem_filter.mpr ⟨List.mem_append_right _ (List.mem_append_right _ (List.mem_append_left _ (List.mem_of_getElem? (i := 220) rfl))), rfl⟩
theorem tw_2_15 : Cond.code yX0_isComparison cX0_isComparison 1 (some .boolean) ∈ g_T := List.mem_filter.mpr ⟨List.mem_append_right _ (List.mem_append_right _ (List.mem_append_left _ (List.mem_of_getElem? (i := 15) rfl))), rfl⟩
theorem tw_2_12 : Cond.code yX1_isReal cX1_isReal 1 (some .boolean) ∈ g_T := List.mem_filter.mpr ⟨List.mem_append_right _ (List.mem_append_right _ (List.mem_append_left _ (List.mem_of_getElem? (i := 12) rfl))), rfl⟩
theorem tw_1_6 : Cond.initialized RX1 ∈ g_T := List.mem_filter.mpr ⟨List.mem_append_right _ (List.mem_append_left _ (List.mem_of_getElem? (i := 6) rfl)), rfl⟩
theorem tw_2_48 : Cond.methodLink RX0 22 yX1_isReal ∈ g_T := List.mem_filter.mpr ⟨List.mem_append_right _ (List.mem_append_right _ (List.mem_append_left _ (List.mem_of_getElem? (i := 48) rfl))), rfl⟩
theorem tw_2_11 : Cond.static yX1_isReal ∈ g_T := List.mem_filter.mpr ⟨List.mem_append_right _ (List.mem_append_right _ (List.mem_append_left _ (List.mem_of_getElem? (i := 11) rfl))), rfl⟩
theorem tw_2_104 : Cond.code yX0_isByZero cX0_isByZero 4 (some .boolean) ∈ g_T := List.mem_filter.mpr ⟨List.mem_append_right _ (List.mem_append_right _ (List.mem_append_left _ (List.mem_of_getElem? (i := 104) rfl))), rfl⟩
theorem tw_2_46 : Cond.constantLong RX1 42 (-2147483648) ∈ g_T := List.mem_filter.mpr ⟨List.mem_append_right _ (List.mem_append_right _ (List.mem_append_left _ (List.mem_of_getElem? (i := 46) rfl))), rfl⟩
theorem tw_2_47 : Cond.constantLong RX1 46 (-9223372036854775808) ∈ g_T := List.mem_filter.mpr ⟨List.mem_append_right _ (List.mem_append_right _ (List.mem_append_left _ (List.mem_of_getElem? (i := 47) rfl))), rfl⟩
theorem tw_2_45 : Cond.code yX1_isZero cX1_isZero 3 (some .boolean) ∈ g_T := List.mem_filter.mpr ⟨List.mem_append_right _ (List.mem_append_right _ (List.mem_append_left _ (List.mem_of_getElem? (i := 45) rfl))), rfl⟩
theorem tw_1_194 : Cond.constantLong RX1 48 (2147483647) ∈ g_T := List.mem_filter.mpr ⟨List.mem_append_right _ (List.mem_append_left _ (List.mem_of_getElem? (i := 194) rfl)), rfl⟩
theorem tw_1_195 : Cond.constantLong RX1 50 (2139095040) ∈ g_T := List.mem_filter.mpr ⟨List.mem_append_right _ (List.mem_append_left _ (List.mem_of_getElem? (i := 195) rfl)), rfl⟩
theorem tw_1_196 : Cond.constantLong RX1 32 (2143289344) ∈ g_T := List.mem_filter.mpr ⟨List.mem_append_right _ (List.mem_append_left _ (List.mem_of_getElem? (i := 196) rfl)), rfl⟩
theorem tw_1_197 : Cond.constantLong RX1 52 (9223372036854775807) ∈ g_T := List.mem_filter.mpr ⟨List.mem_append_right _ (List.mem_append_left _ (List.mem_of_getElem? (i := 197) rfl)), rfl⟩
theorem tw_1_198 : Cond.constantLong RX1 54 (9218868437227405312) ∈ g_T := List.mem_filter.mpr ⟨List.mem_append_right _ (List.mem_append_left _ (List.mem_of_getElem? (i := 198) rfl)), rfl⟩
theorem tw_1_199 : Cond.constantLong RX1 34 (9221120237041090560) ∈ g_T := List.mem_filter.mpr ⟨List.mem_append_right _ (List.mem_append_left _ (List.mem_of_getElem? (i := 199) rfl)), rfl⟩
theorem tw_1_193 : Cond.code yX1_lowestBits cX1_lowestBits 3 (some .long) ∈ g_T := List.mem_filter.mpr ⟨List.mem_append_right _ (List.mem_append_left _ (List.mem_of_getElem? (i := 193) rfl)), rfl⟩
theorem tw_2_57 : Cond.code yX2_setKind cX2_setKind 3 none ∈ g_T := List.mem_filter.mpr ⟨List.mem_append_right _ (List.mem_append_right _ (List.mem_append_left _ (List.mem_of_getElem? (i := 57) rfl))), rfl⟩
theorem tw_2_61 : Cond.code yX2_setFinite cX2_setFinite 6 none ∈ g_T := List.mem_filter.mpr ⟨List.mem_append_right _ (List.mem_append_right _ (List.mem_append_left _ (List.mem_of_getElem? (i := 61) rfl))), rfl⟩
theorem tw_2_54 : Cond.methodLink RX2 24 yX2_setKind ∈ g_T := List.mem_filter.mpr ⟨List.mem_append_right _ (List.mem_append_right _ (List.mem_append_left _ (List.mem_of_getElem? (i := 54) rfl))), rfl⟩
theorem tw_2_56 : Cond.instanceMethod yX2_setKind ∈ g_T := List.mem_filter.mpr ⟨List.mem_append_right _ (List.mem_append_right _ (List.mem_append_left _ (List.mem_of_getElem? (i := 56) rfl))), rfl⟩
theorem tw_p_8 : Cond.selects RX2 yX2_setKind yX2_setKind ∈ g_T := List.mem_filter.mpr ⟨List.mem_append_left _ (List.mem_of_getElem? (i := 8) rfl), rfl⟩
theorem tw_2_58 : Cond.methodLink RX2 34 yX2_setFinite ∈ g_T := List.mem_filter.mpr ⟨List.mem_append_right _ (List.mem_append_right _ (List.mem_append_left _ (List.mem_of_getElem? (i := 58) rfl))), rfl⟩
theorem tw_2_60 : Cond.instanceMethod yX2_setFinite ∈ g_T := List.mem_filter.mpr ⟨List.mem_append_right _ (List.mem_append_right _ (List.mem_append_left _ (List.mem_of_getElem? (i := 60) rfl))), rfl⟩
theorem tw_p_9 : Cond.selects RX2 yX2_setFinite yX2_setFinite ∈ g_T := List.mem_filter.mpr ⟨List.mem_append_left _ (List.mem_of_getElem? (i := 9) rfl), rfl⟩
theorem tw_2_53 : Cond.code yX2_setValue cX2_setValue 11 none ∈ g_T := List.mem_filter.mpr ⟨List.mem_append_right _ (List.mem_append_right _ (List.mem_append_left _ (List.mem_of_getElem? (i := 53) rfl))), rfl⟩
theorem tw_2_70 : Cond.code yJ9_abs_067f4 cJ9_abs_067f4 2 (some .long) ∈ g_T := List.mem_filter.mpr ⟨List.mem_append_right _ (List.mem_append_right _ (List.mem_append_left _ (List.mem_of_getElem? (i := 70) rfl))), rfl⟩
theorem tw_1_9 : Cond.initialized RJ9 ∈ g_T := List.mem_filter.mpr ⟨List.mem_append_right _ (List.mem_append_left _ (List.mem_of_getElem? (i := 9) rfl)), rfl⟩
theorem tw_2_66 : Cond.constantLong RX2 30 (-9223372036854775808) ∈ g_T := List.mem_filter.mpr ⟨List.mem_append_right _ (List.mem_append_right _ (List.mem_append_left _ (List.mem_of_getElem? (i := 66) rfl))), rfl⟩
theorem tw_2_67 : Cond.constantLong RX2 32 (4611686018427387904) ∈ g_T := List.mem_filter.mpr ⟨List.mem_append_right _ (List.mem_append_right _ (List.mem_append_left _ (List.mem_of_getElem? (i := 67) rfl))), rfl⟩
theorem tw_2_68 : Cond.methodLink RX2 38 yJ9_abs_067f4 ∈ g_T := List.mem_filter.mpr ⟨List.mem_append_right _ (List.mem_append_right _ (List.mem_append_left _ (List.mem_of_getElem? (i := 68) rfl))), rfl⟩
theorem tw_2_69 : Cond.static yJ9_abs_067f4 ∈ g_T := List.mem_filter.mpr ⟨List.mem_append_right _ (List.mem_append_right _ (List.mem_append_left _ (List.mem_of_getElem? (i := 69) rfl))), rfl⟩
theorem tw_2_65 : Cond.code yX2_setWhole cX2_setWhole 3 none ∈ g_T := List.mem_filter.mpr ⟨List.mem_append_right _ (List.mem_append_right _ (List.mem_append_left _ (List.mem_of_getElem? (i := 65) rfl))), rfl⟩
theorem tw_2_77 : Cond.code yX1_noNumber cX1_noNumber 1 (some .long) ∈ g_T := List.mem_filter.mpr ⟨List.mem_append_right _ (List.mem_append_right _ (List.mem_append_left _ (List.mem_of_getElem? (i := 77) rfl))), rfl⟩
theorem tw_2_84 : Cond.code yX2_shiftedToNearest cX2_shiftedToNearest 9 (some .long) ∈ g_T := List.mem_filter.mpr ⟨List.mem_append_right _ (List.mem_append_right _ (List.mem_append_left _ (List.mem_of_getElem? (i := 84) rfl))), rfl⟩
theorem tw_2_82 : Cond.methodLink RX2 58 yX2_shiftedToNearest ∈ g_T := List.mem_filter.mpr ⟨List.mem_append_right _ (List.mem_append_right _ (List.mem_append_left _ (List.mem_of_getElem? (i := 82) rfl))), rfl⟩
theorem tw_2_83 : Cond.static yX2_shiftedToNearest ∈ g_T := List.mem_filter.mpr ⟨List.mem_append_right _ (List.mem_append_right _ (List.mem_append_left _ (List.mem_of_getElem? (i := 83) rfl))), rfl⟩
theorem tw_2_81 : Cond.code yX2_sizeInBits cX2_sizeInBits 7 (some .long) ∈ g_T := List.mem_filter.mpr ⟨List.mem_append_right _ (List.mem_append_right _ (List.mem_append_left _ (List.mem_of_getElem? (i := 81) rfl))), rfl⟩
theorem tw_2_75 : Cond.methodLink RX2 46 yX1_noNumber ∈ g_T := List.mem_filter.mpr ⟨List.mem_append_right _ (List.mem_append_right _ (List.mem_append_left _ (List.mem_of_getElem? (i := 75) rfl))), rfl⟩
theorem tw_2_76 : Cond.static yX1_noNumber ∈ g_T := List.mem_filter.mpr ⟨List.mem_append_right _ (List.mem_append_right _ (List.mem_append_left _ (List.mem_of_getElem? (i := 76) rfl))), rfl⟩
theorem tw_2_78 : Cond.methodLink RX2 50 yX2_sizeInBits ∈ g_T := List.mem_filter.mpr ⟨List.mem_append_right _ (List.mem_append_right _ (List.mem_append_left _ (List.mem_of_getElem? (i := 78) rfl))), rfl⟩
theorem tw_2_80 : Cond.instanceMethod yX2_sizeInBits ∈ g_T := List.mem_filter.mpr ⟨List.mem_append_right _ (List.mem_append_right _ (List.mem_append_left _ (List.mem_of_getElem? (i := 80) rfl))), rfl⟩
theorem tw_p_10 : Cond.selects RX2 yX2_sizeInBits yX2_sizeInBits ∈ g_T := List.mem_filter.mpr ⟨List.mem_append_left _ (List.mem_of_getElem? (i := 10) rfl), rfl⟩
theorem tw_2_85 : Cond.constantLong RX2 56 (-2147483648) ∈ g_T := List.mem_filter.mpr ⟨List.mem_append_right _ (List.mem_append_right _ (List.mem_append_left _ (List.mem_of_getElem? (i := 85) rfl))), rfl⟩
theorem tw_2_74 : Cond.code yX2_toValue cX2_toValue 5 (some .long) ∈ g_T := List.mem_filter.mpr ⟨List.mem_append_right _ (List.mem_append_right _ (List.mem_append_left _ (List.mem_of_getElem? (i := 74) rfl))), rfl⟩
theorem tw_2_93 : Cond.constantLong RX2 62 (9223372036854775807) ∈ g_T := List.mem_filter.mpr ⟨List.mem_append_right _ (List.mem_append_right _ (List.mem_append_left _ (List.mem_of_getElem? (i := 93) rfl))), rfl⟩
theorem tw_2_92 : Cond.code yX2_toLong cX2_toLong 3 (some .long) ∈ g_T := List.mem_filter.mpr ⟨List.mem_append_right _ (List.mem_append_right _ (List.mem_append_left _ (List.mem_of_getElem? (i := 92) rfl))), rfl⟩
theorem tw_2_98 : Cond.code yJ9_min_f86c9 cJ9_min_f86c9 4 (some .long) ∈ g_T := List.mem_filter.mpr ⟨List.mem_append_right _ (List.mem_append_right _ (List.mem_append_left _ (List.mem_of_getElem? (i := 98) rfl))), rfl⟩
theorem tw_2_101 : Cond.code yJ9_max_f86c9 cJ9_max_f86c9 4 (some .long) ∈ g_T := List.mem_filter.mpr ⟨List.mem_append_right _ (List.mem_append_right _ (List.mem_append_left _ (List.mem_of_getElem? (i := 101) rfl))), rfl⟩
theorem tw_2_89 : Cond.methodLink RX0 52 yX2_toLong ∈ g_T := List.mem_filter.mpr ⟨List.mem_append_right _ (List.mem_append_right _ (List.mem_append_left _ (List.mem_of_getElem? (i := 89) rfl))), rfl⟩
theorem tw_2_90 : Cond.instanceMethod yX2_toLong ∈ g_T := List.mem_filter.mpr ⟨List.mem_append_right _ (List.mem_append_right _ (List.mem_append_left _ (List.mem_of_getElem? (i := 90) rfl))), rfl⟩
theorem tw_2_91 : Cond.selects RX2 yX2_toLong yX2_toLong ∈ g_T := List.mem_filter.mpr ⟨List.mem_append_right _ (List.mem_append_right _ (List.mem_append_left _ (List.mem_of_getElem? (i := 91) rfl))), rfl⟩
theorem tw_2_94 : Cond.constantLong RX0 58 (-2147483648) ∈ g_T := List.mem_filter.mpr ⟨List.mem_append_right _ (List.mem_append_right _ (List.mem_append_left _ (List.mem_of_getElem? (i := 94) rfl))), rfl⟩
theorem tw_2_95 : Cond.constantLong RX0 60 (2147483647) ∈ g_T := List.mem_filter.mpr ⟨List.mem_append_right _ (List.mem_append_right _ (List.mem_append_left _ (List.mem_of_getElem? (i := 95) rfl))), rfl⟩
theorem tw_2_96 : Cond.methodLink RX0 62 yJ9_min_f86c9 ∈ g_T := List.mem_filter.mpr ⟨List.mem_append_right _ (List.mem_append_right _ (List.mem_append_left _ (List.mem_of_getElem? (i := 96) rfl))), rfl⟩
theorem tw_2_97 : Cond.static yJ9_min_f86c9 ∈ g_T := List.mem_filter.mpr ⟨List.mem_append_right _ (List.mem_append_right _ (List.mem_append_left _ (List.mem_of_getElem? (i := 97) rfl))), rfl⟩
theorem tw_2_99 : Cond.methodLink RX0 68 yJ9_max_f86c9 ∈ g_T := List.mem_filter.mpr ⟨List.mem_append_right _ (List.mem_append_right _ (List.mem_append_left _ (List.mem_of_getElem? (i := 99) rfl))), rfl⟩
theorem tw_2_100 : Cond.static yJ9_max_f86c9 ∈ g_T := List.mem_filter.mpr ⟨List.mem_append_right _ (List.mem_append_right _ (List.mem_append_left _ (List.mem_of_getElem? (i := 100) rfl))), rfl⟩
theorem tw_2_49 : Cond.methodLink RX0 32 yX1_lowestBits ∈ g_T := List.mem_filter.mpr ⟨List.mem_append_right _ (List.mem_append_right _ (List.mem_append_left _ (List.mem_of_getElem? (i := 49) rfl))), rfl⟩
theorem tw_1_192 : Cond.static yX1_lowestBits ∈ g_T := List.mem_filter.mpr ⟨List.mem_append_right _ (List.mem_append_left _ (List.mem_of_getElem? (i := 192) rfl)), rfl⟩
theorem tw_2_88 : Cond.code yX0_wholeOf cX0_wholeOf 6 (some .long) ∈ g_T := List.mem_filter.mpr ⟨List.mem_append_right _ (List.mem_append_right _ (List.mem_append_left _ (List.mem_of_getElem? (i := 88) rfl))), rfl⟩
theorem tw_2_43 : Cond.methodLink RX0 28 yX1_isZero ∈ g_T := List.mem_filter.mpr ⟨List.mem_append_right _ (List.mem_append_right _ (List.mem_append_left _ (List.mem_of_getElem? (i := 43) rfl))), rfl⟩
theorem tw_2_44 : Cond.static yX1_isZero ∈ g_T := List.mem_filter.mpr ⟨List.mem_append_right _ (List.mem_append_right _ (List.mem_append_left _ (List.mem_of_getElem? (i := 44) rfl))), rfl⟩
theorem tw_2_62 : Cond.methodLink RX0 40 yX2_setWhole ∈ g_T := List.mem_filter.mpr ⟨List.mem_append_right _ (List.mem_append_right _ (List.mem_append_left _ (List.mem_of_getElem? (i := 62) rfl))), rfl⟩
theorem tw_2_63 : Cond.instanceMethod yX2_setWhole ∈ g_T := List.mem_filter.mpr ⟨List.mem_append_right _ (List.mem_append_right _ (List.mem_append_left _ (List.mem_of_getElem? (i := 63) rfl))), rfl⟩
theorem tw_2_64 : Cond.selects RX2 yX2_setWhole yX2_setWhole ∈ g_T := List.mem_filter.mpr ⟨List.mem_append_right _ (List.mem_append_right _ (List.mem_append_left _ (List.mem_of_getElem? (i := 64) rfl))), rfl⟩
theorem tw_2_50 : Cond.methodLink RX0 36 yX2_setValue ∈ g_T := List.mem_filter.mpr ⟨List.mem_append_right _ (List.mem_append_right _ (List.mem_append_left _ (List.mem_of_getElem? (i := 50) rfl))), rfl⟩
theorem tw_2_51 : Cond.instanceMethod yX2_setValue ∈ g_T := List.mem_filter.mpr ⟨List.mem_append_right _ (List.mem_append_right _ (List.mem_append_left _ (List.mem_of_getElem? (i := 51) rfl))), rfl⟩
theorem tw_2_52 : Cond.selects RX2 yX2_setValue yX2_setValue ∈ g_T := List.mem_filter.mpr ⟨List.mem_append_right _ (List.mem_append_right _ (List.mem_append_left _ (List.mem_of_getElem? (i := 52) rfl))), rfl⟩
theorem tw_2_86 : Cond.methodLink RX0 48 yX0_wholeOf ∈ g_T := List.mem_filter.mpr ⟨List.mem_append_right _ (List.mem_append_right _ (List.mem_append_left _ (List.mem_of_getElem? (i := 86) rfl))), rfl⟩
theorem tw_2_87 : Cond.static yX0_wholeOf ∈ g_T := List.mem_filter.mpr ⟨List.mem_append_right _ (List.mem_append_right _ (List.mem_append_left _ (List.mem_of_getElem? (i := 87) rfl))), rfl⟩
theorem tw_2_71 : Cond.methodLink RX0 44 yX2_toValue ∈ g_T := List.mem_filter.mpr ⟨List.mem_append_right _ (List.mem_append_right _ (List.mem_append_left _ (List.mem_of_getElem? (i := 71) rfl))), rfl⟩
theorem tw_2_72 : Cond.instanceMethod yX2_toValue ∈ g_T := List.mem_filter.mpr ⟨List.mem_append_right _ (List.mem_append_right _ (List.mem_append_left _ (List.mem_of_getElem? (i := 72) rfl))), rfl⟩
theorem tw_2_73 : Cond.selects RX2 yX2_toValue yX2_toValue ∈ g_T := List.mem_filter.mpr ⟨List.mem_append_right _ (List.mem_append_right _ (List.mem_append_left _ (List.mem_of_getElem? (i := 73) rfl))), rfl⟩
theorem tw_2_42 : Cond.code yX0_moved cX0_moved 5 (some .long) ∈ g_T := List.mem_filter.mpr ⟨List.mem_append_right _ (List.mem_append_right _ (List.mem_append_left _ (List.mem_of_getElem? (i := 42) rfl))), rfl⟩
theorem tw_2_10 : Cond.methodLink RX1 23 yX1_isReal ∈ g_T := List.mem_filter.mpr ⟨List.mem_append_right _ (List.mem_append_right _ (List.mem_append_left _ (List.mem_of_getElem? (i := 10) rfl))), rfl⟩
theorem tw_2_116 : Cond.methodLink RX1 36 yX1_noNumber ∈ g_T := List.mem_filter.mpr ⟨List.mem_append_right _ (List.mem_append_right _ (List.mem_append_left _ (List.mem_of_getElem? (i := 116) rfl))), rfl⟩
theorem tw_2_115 : Cond.code yX1_isNoNumber cX1_isNoNumber 3 (some .boolean) ∈ g_T := List.mem_filter.mpr ⟨List.mem_append_right _ (List.mem_append_right _ (List.mem_append_left _ (List.mem_of_getElem? (i := 115) rfl))), rfl⟩
theorem tw_2_120 : Cond.constantLong RX0 105 (9223372036854775807) ∈ g_T := List.mem_filter.mpr ⟨List.mem_append_right _ (List.mem_append_right _ (List.mem_append_left _ (List.mem_of_getElem? (i := 120) rfl))), rfl⟩
theorem tw_2_119 : Cond.code yX0_rankOf cX0_rankOf 3 (some .long) ∈ g_T := List.mem_filter.mpr ⟨List.mem_append_right _ (List.mem_append_right _ (List.mem_append_left _ (List.mem_of_getElem? (i := 119) rfl))), rfl⟩
theorem tw_2_113 : Cond.methodLink RX0 94 yX1_isNoNumber ∈ g_T := List.mem_filter.mpr ⟨List.mem_append_right _ (List.mem_append_right _ (List.mem_append_left _ (List.mem_of_getElem? (i := 113) rfl))), rfl⟩
theorem tw_2_114 : Cond.static yX1_isNoNumber ∈ g_T := List.mem_filter.mpr ⟨List.mem_append_right _ (List.mem_append_right _ (List.mem_append_left _ (List.mem_of_getElem? (i := 114) rfl))), rfl⟩
theorem tw_2_117 : Cond.methodLink RX0 97 yX0_rankOf ∈ g_T := List.mem_filter.mpr ⟨List.mem_append_right _ (List.mem_append_right _ (List.mem_append_left _ (List.mem_of_getElem? (i := 117) rfl))), rfl⟩
theorem tw_2_118 : Cond.static yX0_rankOf ∈ g_T := List.mem_filter.mpr ⟨List.mem_append_right _ (List.mem_append_right _ (List.mem_append_left _ (List.mem_of_getElem? (i := 118) rfl))), rfl⟩
theorem tw_2_112 : Cond.code yX0_compares cX0_compares 10 (some .boolean) ∈ g_T := List.mem_filter.mpr ⟨List.mem_append_right _ (List.mem_append_right _ (List.mem_append_left _ (List.mem_of_getElem? (i := 112) rfl))), rfl⟩
theorem tw_2_124 : Cond.methodLink RX0 100 yX1_noNumber ∈ g_T := List.mem_filter.mpr ⟨List.mem_append_right _ (List.mem_append_right _ (List.mem_append_left _ (List.mem_of_getElem? (i := 124) rfl))), rfl⟩
theorem tw_2_123 : Cond.code yX0_chosen cX0_chosen 9 (some .long) ∈ g_T := List.mem_filter.mpr ⟨List.mem_append_right _ (List.mem_append_right _ (List.mem_append_left _ (List.mem_of_getElem? (i := 123) rfl))), rfl⟩
theorem tw_2_131 : Cond.constant RX0 107 (-2147483648) ∈ g_T := List.mem_filter.mpr ⟨List.mem_append_right _ (List.mem_append_right _ (List.mem_append_left _ (List.mem_of_getElem? (i := 131) rfl))), rfl⟩
theorem tw_2_132 : Cond.constantLong RX0 108 (-9223372036854775808) ∈ g_T := List.mem_filter.mpr ⟨List.mem_append_right _ (List.mem_append_right _ (List.mem_append_left _ (List.mem_of_getElem? (i := 132) rfl))), rfl⟩
theorem tw_2_130 : Cond.code yX0_negativeOf cX0_negativeOf 3 (some .long) ∈ g_T := List.mem_filter.mpr ⟨List.mem_append_right _ (List.mem_append_right _ (List.mem_append_left _ (List.mem_of_getElem? (i := 130) rfl))), rfl⟩
theorem tw_2_128 : Cond.methodLink RX0 85 yX0_negativeOf ∈ g_T := List.mem_filter.mpr ⟨List.mem_append_right _ (List.mem_append_right _ (List.mem_append_left _ (List.mem_of_getElem? (i := 128) rfl))), rfl⟩
theorem tw_2_129 : Cond.static yX0_negativeOf ∈ g_T := List.mem_filter.mpr ⟨List.mem_append_right _ (List.mem_append_right _ (List.mem_append_left _ (List.mem_of_getElem? (i := 129) rfl))), rfl⟩
theorem tw_2_127 : Cond.code yX0_sizeOf cX0_sizeOf 3 (some .long) ∈ g_T := List.mem_filter.mpr ⟨List.mem_append_right _ (List.mem_append_right _ (List.mem_append_left _ (List.mem_of_getElem? (i := 127) rfl))), rfl⟩
theorem tw_2_144 : Cond.code yX2_setAs cX2_setAs 2 none ∈ g_T := List.mem_filter.mpr ⟨List.mem_append_right _ (List.mem_append_right _ (List.mem_append_left _ (List.mem_of_getElem? (i := 144) rfl))), rfl⟩
theorem tw_2_151 : Cond.code yX2_shiftedWithTrace cX2_shiftedWithTrace 5 (some .long) ∈ g_T := List.mem_filter.mpr ⟨List.mem_append_right _ (List.mem_append_right _ (List.mem_append_left _ (List.mem_of_getElem? (i := 151) rfl))), rfl⟩
theorem tw_2_149 : Cond.methodLink RX2 72 yX2_shiftedWithTrace ∈ g_T := List.mem_filter.mpr ⟨List.mem_append_right _ (List.mem_append_right _ (List.mem_append_left _ (List.mem_of_getElem? (i := 149) rfl))), rfl⟩
theorem tw_2_150 : Cond.static yX2_shiftedWithTrace ∈ g_T := List.mem_filter.mpr ⟨List.mem_append_right _ (List.mem_append_right _ (List.mem_append_left _ (List.mem_of_getElem? (i := 150) rfl))), rfl⟩
theorem tw_2_148 : Cond.code yX2_setFiniteSum cX2_setFiniteSum 9 none ∈ g_T := List.mem_filter.mpr ⟨List.mem_append_right _ (List.mem_append_right _ (List.mem_append_left _ (List.mem_of_getElem? (i := 148) rfl))), rfl⟩
theorem tw_2_145 : Cond.methodLink RX2 68 yX2_setFiniteSum ∈ g_T := List.mem_filter.mpr ⟨List.mem_append_right _ (List.mem_append_right _ (List.mem_append_left _ (List.mem_of_getElem? (i := 145) rfl))), rfl⟩
theorem tw_2_147 : Cond.instanceMethod yX2_setFiniteSum ∈ g_T := List.mem_filter.mpr ⟨List.mem_append_right _ (List.mem_append_right _ (List.mem_append_left _ (List.mem_of_getElem? (i := 147) rfl))), rfl⟩
theorem tw_p_12 : Cond.selects RX2 yX2_setFiniteSum yX2_setFiniteSum ∈ g_T := List.mem_filter.mpr ⟨List.mem_append_left _ (List.mem_of_getElem? (i := 12) rfl), rfl⟩
theorem tw_2_141 : Cond.methodLink RX2 64 yX2_setAs ∈ g_T := List.mem_filter.mpr ⟨List.mem_append_right _ (List.mem_append_right _ (List.mem_append_left _ (List.mem_of_getElem? (i := 141) rfl))), rfl⟩
theorem tw_2_142 : Cond.instanceMethod yX2_setAs ∈ g_T := List.mem_filter.mpr ⟨List.mem_append_right _ (List.mem_append_right _ (List.mem_append_left _ (List.mem_of_getElem? (i := 142) rfl))), rfl⟩
theorem tw_2_143 : Cond.selects RX2 yX2_setAs yX2_setAs ∈ g_T := List.mem_filter.mpr ⟨List.mem_append_right _ (List.mem_append_right _ (List.mem_append_left _ (List.mem_of_getElem? (i := 143) rfl))), rfl⟩
theorem tw_2_140 : Cond.code yX2_setSum cX2_setSum 4 none ∈ g_T := List.mem_filter.mpr ⟨List.mem_append_right _ (List.mem_append_right _ (List.mem_append_left _ (List.mem_of_getElem? (i := 140) rfl))), rfl⟩
theorem tw_2_159 : Cond.code yX2_setFiniteProduct cX2_setFiniteProduct 22 none ∈ g_T := List.mem_filter.mpr ⟨List.mem_append_right _ (List.mem_append_right _ (List.mem_append_left _ (List.mem_of_getElem? (i := 159) rfl))), rfl⟩
theorem tw_2_156 : Cond.methodLink RX2 75 yX2_setFiniteProduct ∈ g_T := List.mem_filter.mpr ⟨List.mem_append_right _ (List.mem_append_right _ (List.mem_append_left _ (List.mem_of_getElem? (i := 156) rfl))), rfl⟩
theorem tw_2_158 : Cond.instanceMethod yX2_setFiniteProduct ∈ g_T := List.mem_filter.mpr ⟨List.mem_append_right _ (List.mem_append_right _ (List.mem_append_left _ (List.mem_of_getElem? (i := 158) rfl))), rfl⟩
theorem tw_p_13 : Cond.selects RX2 yX2_setFiniteProduct yX2_setFiniteProduct ∈ g_T := List.mem_filter.mpr ⟨List.mem_append_left _ (List.mem_of_getElem? (i := 13) rfl), rfl⟩
theorem tw_2_155 : Cond.code yX2_setProduct cX2_setProduct 6 none ∈ g_T := List.mem_filter.mpr ⟨List.mem_append_right _ (List.mem_append_right _ (List.mem_append_left _ (List.mem_of_getElem? (i := 155) rfl))), rfl⟩
theorem tw_2_167 : Cond.code yX2_setFiniteQuotient cX2_setFiniteQuotient 12 none ∈ g_T := List.mem_filter.mpr ⟨List.mem_append_right _ (List.mem_append_right _ (List.mem_append_left _ (List.mem_of_getElem? (i := 167) rfl))), rfl⟩
theorem tw_2_164 : Cond.methodLink RX2 79 yX2_setFiniteQuotient ∈ g_T := List.mem_filter.mpr ⟨List.mem_append_right _ (List.mem_append_right _ (List.mem_append_left _ (List.mem_of_getElem? (i := 164) rfl))), rfl⟩
theorem tw_2_166 : Cond.instanceMethod yX2_setFiniteQuotient ∈ g_T := List.mem_filter.mpr ⟨List.mem_append_right _ (List.mem_append_right _ (List.mem_append_left _ (List.mem_of_getElem? (i := 166) rfl))), rfl⟩
theorem tw_p_14 : Cond.selects RX2 yX2_setFiniteQuotient yX2_setFiniteQuotient ∈ g_T := List.mem_filter.mpr ⟨List.mem_append_left _ (List.mem_of_getElem? (i := 14) rfl), rfl⟩
theorem tw_2_163 : Cond.code yX2_setQuotient cX2_setQuotient 5 none ∈ g_T := List.mem_filter.mpr ⟨List.mem_append_right _ (List.mem_append_right _ (List.mem_append_left _ (List.mem_of_getElem? (i := 163) rfl))), rfl⟩
theorem tw_2_171 : Cond.code yX2_roundToWhole cX2_roundToWhole 6 none ∈ g_T := List.mem_filter.mpr ⟨List.mem_append_right _ (List.mem_append_right _ (List.mem_append_left _ (List.mem_of_getElem? (i := 171) rfl))), rfl⟩
theorem tw_2_9 : Cond.code yJ9_min_7cf53 cJ9_min_7cf53 2 (some .int) ∈ g_T := List.mem_filter.mpr ⟨List.mem_append_right _ (List.mem_append_right _ (List.mem_append_left _ (List.mem_of_getElem? (i := 9) rfl))), rfl⟩
theorem tw_2_180 : Cond.methodLink RX2 85 yJ9_min_7cf53 ∈ g_T := List.mem_filter.mpr ⟨List.mem_append_right _ (List.mem_append_right _ (List.mem_append_left _ (List.mem_of_getElem? (i := 180) rfl))), rfl⟩
theorem tw_2_8 : Cond.static yJ9_min_7cf53 ∈ g_T := List.mem_filter.mpr ⟨List.mem_append_right _ (List.mem_append_right _ (List.mem_append_left _ (List.mem_of_getElem? (i := 8) rfl))), rfl⟩
theorem tw_2_179 : Cond.code yX2_setFiniteRest cX2_setFiniteRest 8 none ∈ g_T := List.mem_filter.mpr ⟨List.mem_append_right _ (List.mem_append_right _ (List.mem_append_left _ (List.mem_of_getElem? (i := 179) rfl))), rfl⟩
theorem tw_2_176 : Cond.methodLink RX2 82 yX2_setFiniteRest ∈ g_T := List.mem_filter.mpr ⟨List.mem_append_right _ (List.mem_append_right _ (List.mem_append_left _ (List.mem_of_getElem? (i := 176) rfl))), rfl⟩
theorem tw_2_178 : Cond.instanceMethod yX2_setFiniteRest ∈ g_T := List.mem_filter.mpr ⟨List.mem_append_right _ (List.mem_append_right _ (List.mem_append_left _ (List.mem_of_getElem? (i := 178) rfl))), rfl⟩
theorem tw_p_15 : Cond.selects RX2 yX2_setFiniteRest yX2_setFiniteRest ∈ g_T := List.mem_filter.mpr ⟨List.mem_append_left _ (List.mem_of_getElem? (i := 15) rfl), rfl⟩
theorem tw_2_175 : Cond.code yX2_setRest cX2_setRest 4 none ∈ g_T := List.mem_filter.mpr ⟨List.mem_append_right _ (List.mem_append_right _ (List.mem_append_left _ (List.mem_of_getElem? (i := 175) rfl))), rfl⟩
theorem tw_2_137 : Cond.methodLink RX0 127 yX2_setSum ∈ g_T := List.mem_filter.mpr ⟨List.mem_append_right _ (List.mem_append_right _ (List.mem_append_left _ (List.mem_of_getElem? (i := 137) rfl))), rfl⟩
theorem tw_2_138 : Cond.instanceMethod yX2_setSum ∈ g_T := List.mem_filter.mpr ⟨List.mem_append_right _ (List.mem_append_right _ (List.mem_append_left _ (List.mem_of_getElem? (i := 138) rfl))), rfl⟩
theorem tw_2_139 : Cond.selects RX2 yX2_setSum yX2_setSum ∈ g_T := List.mem_filter.mpr ⟨List.mem_append_right _ (List.mem_append_right _ (List.mem_append_left _ (List.mem_of_getElem? (i := 139) rfl))), rfl⟩
theorem tw_1_35 : Cond.fieldLink RX0 131 "SpreadRules$Real" "negative" "Z" ∈ g_T := List.mem_filter.mpr ⟨List.mem_append_right _ (List.mem_append_left _ (List.mem_of_getElem? (i := 35) rfl)), rfl⟩
theorem tw_2_152 : Cond.methodLink RX0 135 yX2_setProduct ∈ g_T := List.mem_filter.mpr ⟨List.mem_append_right _ (List.mem_append_right _ (List.mem_append_left _ (List.mem_of_getElem? (i := 152) rfl))), rfl⟩
theorem tw_2_153 : Cond.instanceMethod yX2_setProduct ∈ g_T := List.mem_filter.mpr ⟨List.mem_append_right _ (List.mem_append_right _ (List.mem_append_left _ (List.mem_of_getElem? (i := 153) rfl))), rfl⟩
theorem tw_2_154 : Cond.selects RX2 yX2_setProduct yX2_setProduct ∈ g_T := List.mem_filter.mpr ⟨List.mem_append_right _ (List.mem_append_right _ (List.mem_append_left _ (List.mem_of_getElem? (i := 154) rfl))), rfl⟩
theorem tw_2_160 : Cond.methodLink RX0 138 yX2_setQuotient ∈ g_T := List.mem_filter.mpr ⟨List.mem_append_right _ (List.mem_append_right _ (List.mem_append_left _ (List.mem_of_getElem? (i := 160) rfl))), rfl⟩
theorem tw_2_161 : Cond.instanceMethod yX2_setQuotient ∈ g_T := List.mem_filter.mpr ⟨List.mem_append_right _ (List.mem_append_right _ (List.mem_append_left _ (List.mem_of_getElem? (i := 161) rfl))), rfl⟩
theorem tw_2_162 : Cond.selects RX2 yX2_setQuotient yX2_setQuotient ∈ g_T := List.mem_filter.mpr ⟨List.mem_append_right _ (List.mem_append_right _ (List.mem_append_left _ (List.mem_of_getElem? (i := 162) rfl))), rfl⟩
theorem tw_2_172 : Cond.methodLink RX0 145 yX2_setRest ∈ g_T := List.mem_filter.mpr ⟨List.mem_append_right _ (List.mem_append_right _ (List.mem_append_left _ (List.mem_of_getElem? (i := 172) rfl))), rfl⟩
theorem tw_2_173 : Cond.instanceMethod yX2_setRest ∈ g_T := List.mem_filter.mpr ⟨List.mem_append_right _ (List.mem_append_right _ (List.mem_append_left _ (List.mem_of_getElem? (i := 173) rfl))), rfl⟩
theorem tw_2_174 : Cond.selects RX2 yX2_setRest yX2_setRest ∈ g_T := List.mem_filter.mpr ⟨List.mem_append_right _ (List.mem_append_right _ (List.mem_append_left _ (List.mem_of_getElem? (i := 174) rfl))), rfl⟩
theorem tw_1_33 : Cond.fieldLink RX0 148 "SpreadRules$Real" "kind" "I" ∈ g_T := List.mem_filter.mpr ⟨List.mem_append_right _ (List.mem_append_left _ (List.mem_of_getElem? (i := 33) rfl)), rfl⟩
theorem tw_2_181 : Cond.methodLink RX0 152 yX2_setAs ∈ g_T := List.mem_filter.mpr ⟨List.mem_append_right _ (List.mem_append_right _ (List.mem_append_left _ (List.mem_of_getElem? (i := 181) rfl))), rfl⟩
theorem tw_2_168 : Cond.methodLink RX0 141 yX2_roundToWhole ∈ g_T := List.mem_filter.mpr ⟨List.mem_append_right _ (List.mem_append_right _ (List.mem_append_left _ (List.mem_of_getElem? (i := 168) rfl))), rfl⟩
theorem tw_2_169 : Cond.instanceMethod yX2_roundToWhole ∈ g_T := List.mem_filter.mpr ⟨List.mem_append_right _ (List.mem_append_right _ (List.mem_append_left _ (List.mem_of_getElem? (i := 169) rfl))), rfl⟩
theorem tw_2_170 : Cond.selects RX2 yX2_roundToWhole yX2_roundToWhole ∈ g_T := List.mem_filter.mpr ⟨List.mem_append_right _ (List.mem_append_right _ (List.mem_append_left _ (List.mem_of_getElem? (i := 170) rfl))), rfl⟩
theorem tw_2_136 : Cond.code yX0_ofReals cX0_ofReals 7 (some .long) ∈ g_T := List.mem_filter.mpr ⟨List.mem_append_right _ (List.mem_append_right _ (List.mem_append_left _ (List.mem_of_getElem? (i := 136) rfl))), rfl⟩
theorem tw_2_187 : Cond.code yJ9_floorDiv_f86c9 cJ9_floorDiv_f86c9 6 (some .long) ∈ g_T := List.mem_filter.mpr ⟨List.mem_append_right _ (List.mem_append_right _ (List.mem_append_left _ (List.mem_of_getElem? (i := 187) rfl))), rfl⟩
theorem tw_2_190 : Cond.code yJ9_floorMod_f86c9 cJ9_floorMod_f86c9 6 (some .long) ∈ g_T := List.mem_filter.mpr ⟨List.mem_append_right _ (List.mem_append_right _ (List.mem_append_left _ (List.mem_of_getElem? (i := 190) rfl))), rfl⟩
theorem tw_2_195 : Cond.constantLong RX0 125 (4294967295) ∈ g_T := List.mem_filter.mpr ⟨List.mem_append_right _ (List.mem_append_right _ (List.mem_append_left _ (List.mem_of_getElem? (i := 195) rfl))), rfl⟩
theorem tw_2_194 : Cond.constantLong RX0 123 (255) ∈ g_T := List.mem_filter.mpr ⟨List.mem_append_right _ (List.mem_append_right _ (List.mem_append_left _ (List.mem_of_getElem? (i := 194) rfl))), rfl⟩
theorem tw_2_193 : Cond.code yX0_withoutSign cX0_withoutSign 3 (some .long) ∈ g_T := List.mem_filter.mpr ⟨List.mem_append_right _ (List.mem_append_right _ (List.mem_append_left _ (List.mem_of_getElem? (i := 193) rfl))), rfl⟩
theorem tw_2_185 : Cond.methodLink RX0 114 yJ9_floorDiv_f86c9 ∈ g_T := List.mem_filter.mpr ⟨List.mem_append_right _ (List.mem_append_right _ (List.mem_append_left _ (List.mem_of_getElem? (i := 185) rfl))), rfl⟩
theorem tw_2_186 : Cond.static yJ9_floorDiv_f86c9 ∈ g_T := List.mem_filter.mpr ⟨List.mem_append_right _ (List.mem_append_right _ (List.mem_append_left _ (List.mem_of_getElem? (i := 186) rfl))), rfl⟩
theorem tw_2_188 : Cond.methodLink RX0 117 yJ9_floorMod_f86c9 ∈ g_T := List.mem_filter.mpr ⟨List.mem_append_right _ (List.mem_append_right _ (List.mem_append_left _ (List.mem_of_getElem? (i := 188) rfl))), rfl⟩
theorem tw_2_189 : Cond.static yJ9_floorMod_f86c9 ∈ g_T := List.mem_filter.mpr ⟨List.mem_append_right _ (List.mem_append_right _ (List.mem_append_left _ (List.mem_of_getElem? (i := 189) rfl))), rfl⟩
theorem tw_2_191 : Cond.methodLink RX0 120 yX0_withoutSign ∈ g_T := List.mem_filter.mpr ⟨List.mem_append_right _ (List.mem_append_right _ (List.mem_append_left _ (List.mem_of_getElem? (i := 191) rfl))), rfl⟩
theorem tw_2_192 : Cond.static yX0_withoutSign ∈ g_T := List.mem_filter.mpr ⟨List.mem_append_right _ (List.mem_append_right _ (List.mem_append_left _ (List.mem_of_getElem? (i := 192) rfl))), rfl⟩
theorem tw_2_184 : Cond.code yX0_ofWholes cX0_ofWholes 7 (some .long) ∈ g_T := List.mem_filter.mpr ⟨List.mem_append_right _ (List.mem_append_right _ (List.mem_append_left _ (List.mem_of_getElem? (i := 184) rfl))), rfl⟩
theorem tw_2_109 : Cond.methodLink RX0 71 yX0_isComparison ∈ g_T := List.mem_filter.mpr ⟨List.mem_append_right _ (List.mem_append_right _ (List.mem_append_left _ (List.mem_of_getElem? (i := 109) rfl))), rfl⟩
theorem tw_2_14 : Cond.static yX0_isComparison ∈ g_T := List.mem_filter.mpr ⟨List.mem_append_right _ (List.mem_append_right _ (List.mem_append_left _ (List.mem_of_getElem? (i := 14) rfl))), rfl⟩
theorem tw_2_121 : Cond.methodLink RX0 78 yX0_chosen ∈ g_T := List.mem_filter.mpr ⟨List.mem_append_right _ (List.mem_append_right _ (List.mem_append_left _ (List.mem_of_getElem? (i := 121) rfl))), rfl⟩
theorem tw_2_122 : Cond.static yX0_chosen ∈ g_T := List.mem_filter.mpr ⟨List.mem_append_right _ (List.mem_append_right _ (List.mem_append_left _ (List.mem_of_getElem? (i := 122) rfl))), rfl⟩
theorem tw_2_110 : Cond.methodLink RX0 74 yX0_compares ∈ g_T := List.mem_filter.mpr ⟨List.mem_append_right _ (List.mem_append_right _ (List.mem_append_left _ (List.mem_of_getElem? (i := 110) rfl))), rfl⟩
theorem tw_2_111 : Cond.static yX0_compares ∈ g_T := List.mem_filter.mpr ⟨List.mem_append_right _ (List.mem_append_right _ (List.mem_append_left _ (List.mem_of_getElem? (i := 111) rfl))), rfl⟩
theorem tw_2_182 : Cond.methodLink RX0 91 yX0_ofWholes ∈ g_T := List.mem_filter.mpr ⟨List.mem_append_right _ (List.mem_append_right _ (List.mem_append_left _ (List.mem_of_getElem? (i := 182) rfl))), rfl⟩
theorem tw_2_183 : Cond.static yX0_ofWholes ∈ g_T := List.mem_filter.mpr ⟨List.mem_append_right _ (List.mem_append_right _ (List.mem_append_left _ (List.mem_of_getElem? (i := 183) rfl))), rfl⟩
theorem tw_2_133 : Cond.methodLink RX0 88 yX0_ofReals ∈ g_T := List.mem_filter.mpr ⟨List.mem_append_right _ (List.mem_append_right _ (List.mem_append_left _ (List.mem_of_getElem? (i := 133) rfl))), rfl⟩
theorem tw_2_135 : Cond.instanceMethod yX0_ofReals ∈ g_T := List.mem_filter.mpr ⟨List.mem_append_right _ (List.mem_append_right _ (List.mem_append_left _ (List.mem_of_getElem? (i := 135) rfl))), rfl⟩
theorem tw_p_11 : Cond.selects RX0 yX0_ofReals yX0_ofReals ∈ g_T := List.mem_filter.mpr ⟨List.mem_append_left _ (List.mem_of_getElem? (i := 11) rfl), rfl⟩
theorem tw_2_125 : Cond.methodLink RX0 82 yX0_sizeOf ∈ g_T := List.mem_filter.mpr ⟨List.mem_append_right _ (List.mem_append_right _ (List.mem_append_left _ (List.mem_of_getElem? (i := 125) rfl))), rfl⟩
theorem tw_2_126 : Cond.static yX0_sizeOf ∈ g_T := List.mem_filter.mpr ⟨List.mem_append_right _ (List.mem_append_right _ (List.mem_append_left _ (List.mem_of_getElem? (i := 126) rfl))), rfl⟩
theorem tw_2_108 : Cond.code yX0_ofTwo cX0_ofTwo 9 (some .long) ∈ g_T := List.mem_filter.mpr ⟨List.mem_append_right _ (List.mem_append_right _ (List.mem_append_left _ (List.mem_of_getElem? (i := 108) rfl))), rfl⟩
theorem tw_2_232 : Cond.constantLong RX0 112 (4607182418800017408) ∈ g_T := List.mem_filter.mpr ⟨List.mem_append_right _ (List.mem_append_right _ (List.mem_append_left _ (List.mem_of_getElem? (i := 232) rfl))), rfl⟩
theorem tw_2_231 : Cond.constantLong RX0 110 (1065353216) ∈ g_T := List.mem_filter.mpr ⟨List.mem_append_right _ (List.mem_append_right _ (List.mem_append_left _ (List.mem_of_getElem? (i := 231) rfl))), rfl⟩
theorem tw_2_230 : Cond.code yX0_signOf cX0_signOf 5 (some .long) ∈ g_T := List.mem_filter.mpr ⟨List.mem_append_right _ (List.mem_append_right _ (List.mem_append_left _ (List.mem_of_getElem? (i := 230) rfl))), rfl⟩
theorem tw_2_237 : Cond.code yX0_roundedTo cX0_roundedTo 5 (some .long) ∈ g_T := List.mem_filter.mpr ⟨List.mem_append_right _ (List.mem_append_right _ (List.mem_append_left _ (List.mem_of_getElem? (i := 237) rfl))), rfl⟩
theorem tw_2_228 : Cond.methodLink RX0 156 yX0_signOf ∈ g_T := List.mem_filter.mpr ⟨List.mem_append_right _ (List.mem_append_right _ (List.mem_append_left _ (List.mem_of_getElem? (i := 228) rfl))), rfl⟩
theorem tw_2_229 : Cond.static yX0_signOf ∈ g_T := List.mem_filter.mpr ⟨List.mem_append_right _ (List.mem_append_right _ (List.mem_append_left _ (List.mem_of_getElem? (i := 229) rfl))), rfl⟩
theorem tw_2_233 : Cond.constantLong RX0 159 (-1) ∈ g_T := List.mem_filter.mpr ⟨List.mem_append_right _ (List.mem_append_right _ (List.mem_append_left _ (List.mem_of_getElem? (i := 233) rfl))), rfl⟩
theorem tw_2_234 : Cond.methodLink RX0 161 yX0_roundedTo ∈ g_T := List.mem_filter.mpr ⟨List.mem_append_right _ (List.mem_append_right _ (List.mem_append_left _ (List.mem_of_getElem? (i := 234) rfl))), rfl⟩
theorem tw_2_236 : Cond.instanceMethod yX0_roundedTo ∈ g_T := List.mem_filter.mpr ⟨List.mem_append_right _ (List.mem_append_right _ (List.mem_append_left _ (List.mem_of_getElem? (i := 236) rfl))), rfl⟩
theorem tw_p_17 : Cond.selects RX0 yX0_roundedTo yX0_roundedTo ∈ g_T := List.mem_filter.mpr ⟨List.mem_append_left _ (List.mem_of_getElem? (i := 17) rfl), rfl⟩
theorem tw_2_227 : Cond.code yX0_ofOne cX0_ofOne 5 (some .long) ∈ g_T := List.mem_filter.mpr ⟨List.mem_append_right _ (List.mem_append_right _ (List.mem_append_left _ (List.mem_of_getElem? (i := 227) rfl))), rfl⟩
theorem tw_1_107 : Cond.code yX1_isLane cX1_isLane 1 (some .boolean) ∈ g_T := List.mem_filter.mpr ⟨List.mem_append_right _ (List.mem_append_left _ (List.mem_of_getElem? (i := 107) rfl)), rfl⟩
theorem tw_2_6 : Cond.code yJ9_max_7cf53 cJ9_max_7cf53 2 (some .int) ∈ g_T := List.mem_filter.mpr ⟨List.mem_append_right _ (List.mem_append_right _ (List.mem_append_left _ (List.mem_of_getElem? (i := 6) rfl))), rfl⟩
theorem tw_2_4 : Cond.methodLink RX1 11 yJ9_max_7cf53 ∈ g_T := List.mem_filter.mpr ⟨List.mem_append_right _ (List.mem_append_right _ (List.mem_append_left _ (List.mem_of_getElem? (i := 4) rfl))), rfl⟩
theorem tw_2_5 : Cond.static yJ9_max_7cf53 ∈ g_T := List.mem_filter.mpr ⟨List.mem_append_right _ (List.mem_append_right _ (List.mem_append_left _ (List.mem_of_getElem? (i := 5) rfl))), rfl⟩
theorem tw_2_7 : Cond.methodLink RX1 17 yJ9_min_7cf53 ∈ g_T := List.mem_filter.mpr ⟨List.mem_append_right _ (List.mem_append_right _ (List.mem_append_left _ (List.mem_of_getElem? (i := 7) rfl))), rfl⟩
theorem tw_2_3 : Cond.code yX1_joined cX1_joined 4 (some .int) ∈ g_T := List.mem_filter.mpr ⟨List.mem_append_right _ (List.mem_append_right _ (List.mem_append_left _ (List.mem_of_getElem? (i := 3) rfl))), rfl⟩
theorem tw_2_1 : Cond.methodLink RX1 20 yX1_joined ∈ g_T := List.mem_filter.mpr ⟨List.mem_append_right _ (List.mem_append_right _ (List.mem_append_left _ (List.mem_of_getElem? (i := 1) rfl))), rfl⟩
theorem tw_2_2 : Cond.static yX1_joined ∈ g_T := List.mem_filter.mpr ⟨List.mem_append_right _ (List.mem_append_right _ (List.mem_append_left _ (List.mem_of_getElem? (i := 2) rfl))), rfl⟩
theorem tw_2_209 : Cond.code yX1_mayHold cX1_mayHold 2 (some .boolean) ∈ g_T := List.mem_filter.mpr ⟨List.mem_append_right _ (List.mem_append_right _ (List.mem_append_left _ (List.mem_of_getElem? (i := 209) rfl))), rfl⟩
theorem tw_2_13 : Cond.methodLink RX1 29 yX0_isComparison ∈ g_T := List.mem_filter.mpr ⟨List.mem_append_right _ (List.mem_append_right _ (List.mem_append_left _ (List.mem_of_getElem? (i := 13) rfl))), rfl⟩
theorem tw_2_0 : Cond.code yX1_ofAct cX1_ofAct 5 (some .int) ∈ g_T := List.mem_filter.mpr ⟨List.mem_append_right _ (List.mem_append_right _ (List.mem_append_left _ (List.mem_of_getElem? (i := 0) rfl))), rfl⟩
theorem tw_2_198 : Cond.code yX1_ofResult cX1_ofResult 2 (some .int) ∈ g_T := List.mem_filter.mpr ⟨List.mem_append_right _ (List.mem_append_right _ (List.mem_append_left _ (List.mem_of_getElem? (i := 198) rfl))), rfl⟩
theorem tw_2_223 : Cond.code yX1_ofOne cX1_ofOne 2 (some .int) ∈ g_T := List.mem_filter.mpr ⟨List.mem_append_right _ (List.mem_append_right _ (List.mem_append_left _ (List.mem_of_getElem? (i := 223) rfl))), rfl⟩
theorem tw_1_62 : Cond.methodLink RX3 3 objectInit ∈ g_T := List.mem_filter.mpr ⟨List.mem_append_right _ (List.mem_append_left _ (List.mem_of_getElem? (i := 62) rfl)), rfl⟩
theorem tw_1_63 : Cond.fieldLink RX3 9 "SpreadRules$Shape" "rank" "I" ∈ g_T := List.mem_filter.mpr ⟨List.mem_append_right _ (List.mem_append_left _ (List.mem_of_getElem? (i := 63) rfl)), rfl⟩
theorem tw_1_71 : Cond.arrayClass .int ∈ g_T := List.mem_filter.mpr ⟨List.mem_append_right _ (List.mem_append_left _ (List.mem_of_getElem? (i := 71) rfl)), rfl⟩
theorem tw_1_65 : Cond.fieldLink RX3 15 "SpreadRules$Shape" "fromLast" "[I" ∈ g_T := List.mem_filter.mpr ⟨List.mem_append_right _ (List.mem_append_left _ (List.mem_of_getElem? (i := 65) rfl)), rfl⟩
theorem tw_1_61 : Cond.code yX3_init cX3_init 1 none ∈ g_T := List.mem_filter.mpr ⟨List.mem_append_right _ (List.mem_append_left _ (List.mem_of_getElem? (i := 61) rfl)), rfl⟩
theorem tw_1_4 : Cond.initialized RX3 ∈ g_T := List.mem_filter.mpr ⟨List.mem_append_right _ (List.mem_append_left _ (List.mem_of_getElem? (i := 4) rfl)), rfl⟩
theorem tw_1_119 : Cond.code yX3_setFromLast cX3_setFromLast 5 none ∈ g_T := List.mem_filter.mpr ⟨List.mem_append_right _ (List.mem_append_left _ (List.mem_of_getElem? (i := 119) rfl)), rfl⟩
theorem tw_1_116 : Cond.methodLink RX3 19 yX3_setFromLast ∈ g_T := List.mem_filter.mpr ⟨List.mem_append_right _ (List.mem_append_left _ (List.mem_of_getElem? (i := 116) rfl)), rfl⟩
theorem tw_1_118 : Cond.instanceMethod yX3_setFromLast ∈ g_T := List.mem_filter.mpr ⟨List.mem_append_right _ (List.mem_append_left _ (List.mem_of_getElem? (i := 118) rfl)), rfl⟩
theorem tw_p_1 : Cond.selects RX3 yX3_setFromLast yX3_setFromLast ∈ g_T := List.mem_filter.mpr ⟨List.mem_append_left _ (List.mem_of_getElem? (i := 1) rfl), rfl⟩
theorem tw_1_115 : Cond.code yX3_setFromFirst cX3_setFromFirst 4 none ∈ g_T := List.mem_filter.mpr ⟨List.mem_append_right _ (List.mem_append_left _ (List.mem_of_getElem? (i := 115) rfl)), rfl⟩
theorem tw_1_142 : Cond.code yX3_setAs cX3_setAs 2 none ∈ g_T := List.mem_filter.mpr ⟨List.mem_append_right _ (List.mem_append_left _ (List.mem_of_getElem? (i := 142) rfl)), rfl⟩
theorem tw_2_25 : Cond.methodLink RX3 23 yJ9_max_7cf53 ∈ g_T := List.mem_filter.mpr ⟨List.mem_append_right _ (List.mem_append_right _ (List.mem_append_left _ (List.mem_of_getElem? (i := 25) rfl))), rfl⟩
theorem tw_2_24 : Cond.code yX3_spreadWith cX3_spreadWith 4 (some .int) ∈ g_T := List.mem_filter.mpr ⟨List.mem_append_right _ (List.mem_append_right _ (List.mem_append_left _ (List.mem_of_getElem? (i := 24) rfl))), rfl⟩
theorem tw_1_131 : Cond.code yX3_size cX3_size 1 (some .int) ∈ g_T := List.mem_filter.mpr ⟨List.mem_append_right _ (List.mem_append_left _ (List.mem_of_getElem? (i := 131) rfl)), rfl⟩
theorem tw_1_225 : Cond.code yX3_extentFromFirst cX3_extentFromFirst 3 (some .int) ∈ g_T := List.mem_filter.mpr ⟨List.mem_append_right _ (List.mem_append_left _ (List.mem_of_getElem? (i := 225) rfl)), rfl⟩
theorem tw_2_206 : Cond.code yX3_isLike cX3_isLike 2 (some .boolean) ∈ g_T := List.mem_filter.mpr ⟨List.mem_append_right _ (List.mem_append_right _ (List.mem_append_left _ (List.mem_of_getElem? (i := 206) rfl))), rfl⟩
theorem tw_1_222 : Cond.methodLink RX3 29 yX3_extentFromFirst ∈ g_T := List.mem_filter.mpr ⟨List.mem_append_right _ (List.mem_append_left _ (List.mem_of_getElem? (i := 222) rfl)), rfl⟩
theorem tw_1_223 : Cond.instanceMethod yX3_extentFromFirst ∈ g_T := List.mem_filter.mpr ⟨List.mem_append_right _ (List.mem_append_left _ (List.mem_of_getElem? (i := 223) rfl)), rfl⟩
theorem tw_1_224 : Cond.selects RX3 yX3_extentFromFirst yX3_extentFromFirst ∈ g_T := List.mem_filter.mpr ⟨List.mem_append_right _ (List.mem_append_left _ (List.mem_of_getElem? (i := 224) rfl)), rfl⟩
theorem tw_1_221 : Cond.code yX3_numberAt cX3_numberAt 8 (some .int) ∈ g_T := List.mem_filter.mpr ⟨List.mem_append_right _ (List.mem_append_left _ (List.mem_of_getElem? (i := 221) rfl)), rfl⟩
theorem tw_2_37 : Cond.code yX3_numberUnder cX3_numberUnder 8 (some .int) ∈ g_T := List.mem_filter.mpr ⟨List.mem_append_right _ (List.mem_append_right _ (List.mem_append_left _ (List.mem_of_getElem? (i := 37) rfl))), rfl⟩
theorem tw_1_136 : Cond.methodLink RX4 1 objectInit ∈ g_T := List.mem_filter.mpr ⟨List.mem_append_right _ (List.mem_append_left _ (List.mem_of_getElem? (i := 136) rfl)), rfl⟩
theorem tw_1_137 : Cond.classLink RX4 7 RX3 ∈ g_T := List.mem_filter.mpr ⟨List.mem_append_right _ (List.mem_append_left _ (List.mem_of_getElem? (i := 137) rfl)), rfl⟩
theorem tw_1_58 : Cond.instantiable RX3 2 ∈ g_T := List.mem_filter.mpr ⟨List.mem_append_right _ (List.mem_append_left _ (List.mem_of_getElem? (i := 58) rfl)), rfl⟩
theorem tw_1_60 : Cond.instanceMethod yX3_init ∈ g_T := List.mem_filter.mpr ⟨List.mem_append_right _ (List.mem_append_left _ (List.mem_of_getElem? (i := 60) rfl)), rfl⟩
theorem tw_1_145 : Cond.fieldLink RX4 10 "SpreadRules$Tensor" "shape" "LSpreadRules$Shape;" ∈ g_T := List.mem_filter.mpr ⟨List.mem_append_right _ (List.mem_append_left _ (List.mem_of_getElem? (i := 145) rfl)), rfl⟩
theorem tw_1_149 : Cond.fieldLink RX4 16 "SpreadRules$Tensor" "gone" "Z" ∈ g_T := List.mem_filter.mpr ⟨List.mem_append_right _ (List.mem_append_left _ (List.mem_of_getElem? (i := 149) rfl)), rfl⟩
theorem tw_1_143 : Cond.fieldLink RX4 20 "SpreadRules$Tensor" "lane" "I" ∈ g_T := List.mem_filter.mpr ⟨List.mem_append_right _ (List.mem_append_left _ (List.mem_of_getElem? (i := 143) rfl)), rfl⟩
theorem tw_1_139 : Cond.methodLink RX4 24 yX3_setAs ∈ g_T := List.mem_filter.mpr ⟨List.mem_append_right _ (List.mem_append_left _ (List.mem_of_getElem? (i := 139) rfl)), rfl⟩
theorem tw_1_140 : Cond.instanceMethod yX3_setAs ∈ g_T := List.mem_filter.mpr ⟨List.mem_append_right _ (List.mem_append_left _ (List.mem_of_getElem? (i := 140) rfl)), rfl⟩
theorem tw_1_141 : Cond.selects RX3 yX3_setAs yX3_setAs ∈ g_T := List.mem_filter.mpr ⟨List.mem_append_right _ (List.mem_append_left _ (List.mem_of_getElem? (i := 141) rfl)), rfl⟩
theorem tw_1_100 : Cond.arrayClass .long ∈ g_T := List.mem_filter.mpr ⟨List.mem_append_right _ (List.mem_append_left _ (List.mem_of_getElem? (i := 100) rfl)), rfl⟩
theorem tw_1_147 : Cond.fieldLink RX4 28 "SpreadRules$Tensor" "items" "[J" ∈ g_T := List.mem_filter.mpr ⟨List.mem_append_right _ (List.mem_append_left _ (List.mem_of_getElem? (i := 147) rfl)), rfl⟩
theorem tw_1_135 : Cond.code yX4_init cX4_init 4 none ∈ g_T := List.mem_filter.mpr ⟨List.mem_append_right _ (List.mem_append_left _ (List.mem_of_getElem? (i := 135) rfl)), rfl⟩
theorem tw_1_7 : Cond.initialized RX4 ∈ g_T := List.mem_filter.mpr ⟨List.mem_append_right _ (List.mem_append_left _ (List.mem_of_getElem? (i := 7) rfl)), rfl⟩
theorem tw_1_190 : Cond.code yX4_hasItem cX4_hasItem 2 (some .boolean) ∈ g_T := List.mem_filter.mpr ⟨List.mem_append_right _ (List.mem_append_left _ (List.mem_of_getElem? (i := 190) rfl)), rfl⟩
theorem tw_1_204 : Cond.methodLink RX4 32 yX4_hasItem ∈ g_T := List.mem_filter.mpr ⟨List.mem_append_right _ (List.mem_append_left _ (List.mem_of_getElem? (i := 204) rfl)), rfl⟩
theorem tw_1_188 : Cond.instanceMethod yX4_hasItem ∈ g_T := List.mem_filter.mpr ⟨List.mem_append_right _ (List.mem_append_left _ (List.mem_of_getElem? (i := 188) rfl)), rfl⟩
theorem tw_1_189 : Cond.selects RX4 yX4_hasItem yX4_hasItem ∈ g_T := List.mem_filter.mpr ⟨List.mem_append_right _ (List.mem_append_left _ (List.mem_of_getElem? (i := 189) rfl)), rfl⟩
theorem tw_1_213 : Cond.code yX4_read cX4_read 2 (some .long) ∈ g_T := List.mem_filter.mpr ⟨List.mem_append_right _ (List.mem_append_left _ (List.mem_of_getElem? (i := 213) rfl)), rfl⟩
theorem tw_1_203 : Cond.code yX4_write cX4_write 4 none ∈ g_T := List.mem_filter.mpr ⟨List.mem_append_right _ (List.mem_append_left _ (List.mem_of_getElem? (i := 203) rfl)), rfl⟩
theorem tw_2_34 : Cond.methodLink RX4 36 yX3_numberUnder ∈ g_T := List.mem_filter.mpr ⟨List.mem_append_right _ (List.mem_append_right _ (List.mem_append_left _ (List.mem_of_getElem? (i := 34) rfl))), rfl⟩
theorem tw_2_35 : Cond.instanceMethod yX3_numberUnder ∈ g_T := List.mem_filter.mpr ⟨List.mem_append_right _ (List.mem_append_right _ (List.mem_append_left _ (List.mem_of_getElem? (i := 35) rfl))), rfl⟩
theorem tw_2_36 : Cond.selects RX3 yX3_numberUnder yX3_numberUnder ∈ g_T := List.mem_filter.mpr ⟨List.mem_append_right _ (List.mem_append_right _ (List.mem_append_left _ (List.mem_of_getElem? (i := 36) rfl))), rfl⟩
theorem tw_2_38 : Cond.methodLink RX4 40 yX4_read ∈ g_T := List.mem_filter.mpr ⟨List.mem_append_right _ (List.mem_append_right _ (List.mem_append_left _ (List.mem_of_getElem? (i := 38) rfl))), rfl⟩
theorem tw_1_211 : Cond.instanceMethod yX4_read ∈ g_T := List.mem_filter.mpr ⟨List.mem_append_right _ (List.mem_append_left _ (List.mem_of_getElem? (i := 211) rfl)), rfl⟩
theorem tw_1_212 : Cond.selects RX4 yX4_read yX4_read ∈ g_T := List.mem_filter.mpr ⟨List.mem_append_right _ (List.mem_append_left _ (List.mem_of_getElem? (i := 212) rfl)), rfl⟩
theorem tw_2_33 : Cond.code yX4_readSpread cX4_readSpread 3 (some .long) ∈ g_T := List.mem_filter.mpr ⟨List.mem_append_right _ (List.mem_append_right _ (List.mem_append_left _ (List.mem_of_getElem? (i := 33) rfl))), rfl⟩
theorem tw_3_23 : Cond.methodLink RX4 44 yX3_isLike ∈ g_T := List.mem_filter.mpr ⟨List.mem_append_right _ (List.mem_append_right _ (List.mem_append_right _ (List.mem_append_left _ (List.mem_of_getElem? (i := 23) rfl)))), rfl⟩
theorem tw_2_204 : Cond.instanceMethod yX3_isLike ∈ g_T := List.mem_filter.mpr ⟨List.mem_append_right _ (List.mem_append_right _ (List.mem_append_left _ (List.mem_of_getElem? (i := 204) rfl))), rfl⟩
theorem tw_2_205 : Cond.selects RX3 yX3_isLike yX3_isLike ∈ g_T := List.mem_filter.mpr ⟨List.mem_append_right _ (List.mem_append_right _ (List.mem_append_left _ (List.mem_of_getElem? (i := 205) rfl))), rfl⟩
theorem tw_3_22 : Cond.code yX4_isLike cX4_isLike 3 (some .boolean) ∈ g_T := List.mem_filter.mpr ⟨List.mem_append_right _ (List.mem_append_right _ (List.mem_append_right _ (List.mem_append_left _ (List.mem_of_getElem? (i := 22) rfl)))), rfl⟩
theorem tw_1_15 : Cond.methodLink RX5 1 objectInit ∈ g_T := List.mem_filter.mpr ⟨List.mem_append_right _ (List.mem_append_left _ (List.mem_of_getElem? (i := 15) rfl)), rfl⟩
theorem tw_1_18 : Cond.classLink RX5 9 RX4 ∈ g_T := List.mem_filter.mpr ⟨List.mem_append_right _ (List.mem_append_left _ (List.mem_of_getElem? (i := 18) rfl)), rfl⟩
theorem tw_1_72 : Cond.fieldLink RX5 11 "SpreadRules" "tensors" "[LSpreadRules$Tensor;" ∈ g_T := List.mem_filter.mpr ⟨List.mem_append_right _ (List.mem_append_left _ (List.mem_of_getElem? (i := 72) rfl)), rfl⟩
theorem tw_1_20 : Cond.classLink RX5 15 RX0 ∈ g_T := List.mem_filter.mpr ⟨List.mem_append_right _ (List.mem_append_left _ (List.mem_of_getElem? (i := 20) rfl)), rfl⟩
theorem tw_1_21 : Cond.instantiable RX0 3 ∈ g_T := List.mem_filter.mpr ⟨List.mem_append_right _ (List.mem_append_left _ (List.mem_of_getElem? (i := 21) rfl)), rfl⟩
theorem tw_1_23 : Cond.instanceMethod yX0_init ∈ g_T := List.mem_filter.mpr ⟨List.mem_append_right _ (List.mem_append_left _ (List.mem_of_getElem? (i := 23) rfl)), rfl⟩
theorem tw_1_73 : Cond.fieldLink RX5 18 "SpreadRules" "arithmetic" "LSpreadRules$Arithmetic;" ∈ g_T := List.mem_filter.mpr ⟨List.mem_append_right _ (List.mem_append_left _ (List.mem_of_getElem? (i := 73) rfl)), rfl⟩
theorem tw_1_57 : Cond.classLink RX5 22 RX3 ∈ g_T := List.mem_filter.mpr ⟨List.mem_append_right _ (List.mem_append_left _ (List.mem_of_getElem? (i := 57) rfl)), rfl⟩
theorem tw_1_74 : Cond.fieldLink RX5 25 "SpreadRules" "spread" "LSpreadRules$Shape;" ∈ g_T := List.mem_filter.mpr ⟨List.mem_append_right _ (List.mem_append_left _ (List.mem_of_getElem? (i := 74) rfl)), rfl⟩
theorem tw_1_75 : Cond.fieldLink RX5 29 "SpreadRules" "row" "[J" ∈ g_T := List.mem_filter.mpr ⟨List.mem_append_right _ (List.mem_append_left _ (List.mem_of_getElem? (i := 75) rfl)), rfl⟩
theorem tw_1_76 : Cond.fieldLink RX5 33 "SpreadRules" "made" "I" ∈ g_T := List.mem_filter.mpr ⟨List.mem_append_right _ (List.mem_append_left _ (List.mem_of_getElem? (i := 76) rfl)), rfl⟩
theorem tw_1_77 : Cond.fieldLink RX5 37 "SpreadRules" "settingNow" "I" ∈ g_T := List.mem_filter.mpr ⟨List.mem_append_right _ (List.mem_append_left _ (List.mem_of_getElem? (i := 77) rfl)), rfl⟩
theorem tw_1_78 : Cond.fieldLink RX5 40 "SpreadRules" "missing" "I" ∈ g_T := List.mem_filter.mpr ⟨List.mem_append_right _ (List.mem_append_left _ (List.mem_of_getElem? (i := 78) rfl)), rfl⟩
theorem tw_1_79 : Cond.fieldLink RX5 43 "SpreadRules" "failures" "I" ∈ g_T := List.mem_filter.mpr ⟨List.mem_append_right _ (List.mem_append_left _ (List.mem_of_getElem? (i := 79) rfl)), rfl⟩
theorem tw_1_80 : Cond.fieldLink RX5 46 "SpreadRules" "latestPlace" "I" ∈ g_T := List.mem_filter.mpr ⟨List.mem_append_right _ (List.mem_append_left _ (List.mem_of_getElem? (i := 80) rfl)), rfl⟩
theorem tw_1_14 : Cond.code yX5_init cX5_init 1 none ∈ g_T := List.mem_filter.mpr ⟨List.mem_append_right _ (List.mem_append_left _ (List.mem_of_getElem? (i := 14) rfl)), rfl⟩
theorem tw_1_1 : Cond.initialized RX5 ∈ g_T := List.mem_filter.mpr ⟨List.mem_append_right _ (List.mem_append_left _ (List.mem_of_getElem? (i := 1) rfl)), rfl⟩
theorem tw_1_111 : Cond.code yX5_isFull cX5_isFull 1 (some .boolean) ∈ g_T := List.mem_filter.mpr ⟨List.mem_append_right _ (List.mem_append_left _ (List.mem_of_getElem? (i := 111) rfl)), rfl⟩
theorem tw_1_128 : Cond.methodLink RX5 71 yX3_size ∈ g_T := List.mem_filter.mpr ⟨List.mem_append_right _ (List.mem_append_left _ (List.mem_of_getElem? (i := 128) rfl)), rfl⟩
theorem tw_1_129 : Cond.instanceMethod yX3_size ∈ g_T := List.mem_filter.mpr ⟨List.mem_append_right _ (List.mem_append_left _ (List.mem_of_getElem? (i := 129) rfl)), rfl⟩
theorem tw_1_130 : Cond.selects RX3 yX3_size yX3_size ∈ g_T := List.mem_filter.mpr ⟨List.mem_append_right _ (List.mem_append_left _ (List.mem_of_getElem? (i := 130) rfl)), rfl⟩
theorem tw_1_132 : Cond.instantiable RX4 4 ∈ g_T := List.mem_filter.mpr ⟨List.mem_append_right _ (List.mem_append_left _ (List.mem_of_getElem? (i := 132) rfl)), rfl⟩
theorem tw_1_133 : Cond.methodLink RX5 191 yX4_init ∈ g_T := List.mem_filter.mpr ⟨List.mem_append_right _ (List.mem_append_left _ (List.mem_of_getElem? (i := 133) rfl)), rfl⟩
theorem tw_1_134 : Cond.instanceMethod yX4_init ∈ g_T := List.mem_filter.mpr ⟨List.mem_append_right _ (List.mem_append_left _ (List.mem_of_getElem? (i := 134) rfl)), rfl⟩
theorem tw_1_148 : Cond.fieldLink RX5 158 "SpreadRules$Tensor" "items" "[J" ∈ g_T := List.mem_filter.mpr ⟨List.mem_append_right _ (List.mem_append_left _ (List.mem_of_getElem? (i := 148) rfl)), rfl⟩
theorem tw_1_160 : Cond.methodLink RX5 179 arraycopyName ∈ g_T := List.mem_filter.mpr ⟨List.mem_append_right _ (List.mem_append_left _ (List.mem_of_getElem? (i := 160) rfl)), rfl⟩
theorem tw_1_162 : Cond.native arraycopyName ∈ g_T := List.mem_filter.mpr ⟨List.mem_append_right _ (List.mem_append_left _ (List.mem_of_getElem? (i := 162) rfl)), rfl⟩
theorem tw_1_161 : Cond.static arraycopyName ∈ g_T := List.mem_filter.mpr ⟨List.mem_append_right _ (List.mem_append_left _ (List.mem_of_getElem? (i := 161) rfl)), rfl⟩
theorem tw_1_8 : Cond.initialized RJ10 ∈ g_T := List.mem_filter.mpr ⟨List.mem_append_right _ (List.mem_append_left _ (List.mem_of_getElem? (i := 8) rfl)), rfl⟩
theorem tw_1_127 : Cond.code yX5_madeOfRow cX5_madeOfRow 4 (some .int) ∈ g_T := List.mem_filter.mpr ⟨List.mem_append_right _ (List.mem_append_left _ (List.mem_of_getElem? (i := 127) rfl)), rfl⟩
theorem tw_1_124 : Cond.methodLink RX5 133 yX5_madeOfRow ∈ g_T := List.mem_filter.mpr ⟨List.mem_append_right _ (List.mem_append_left _ (List.mem_of_getElem? (i := 124) rfl)), rfl⟩
theorem tw_1_126 : Cond.instanceMethod yX5_madeOfRow ∈ g_T := List.mem_filter.mpr ⟨List.mem_append_right _ (List.mem_append_left _ (List.mem_of_getElem? (i := 126) rfl)), rfl⟩
theorem tw_p_3 : Cond.selects RX5 yX5_madeOfRow yX5_madeOfRow ∈ g_T := List.mem_filter.mpr ⟨List.mem_append_left _ (List.mem_of_getElem? (i := 3) rfl), rfl⟩
theorem tw_1_123 : Cond.code yX5_madeOfZeros cX5_madeOfZeros 3 (some .int) ∈ g_T := List.mem_filter.mpr ⟨List.mem_append_right _ (List.mem_append_left _ (List.mem_of_getElem? (i := 123) rfl)), rfl⟩
theorem tw_1_105 : Cond.methodLink RX5 49 yX1_isLane ∈ g_T := List.mem_filter.mpr ⟨List.mem_append_right _ (List.mem_append_left _ (List.mem_of_getElem? (i := 105) rfl)), rfl⟩
theorem tw_1_106 : Cond.static yX1_isLane ∈ g_T := List.mem_filter.mpr ⟨List.mem_append_right _ (List.mem_append_left _ (List.mem_of_getElem? (i := 106) rfl)), rfl⟩
theorem tw_1_108 : Cond.methodLink RX5 55 yX5_isFull ∈ g_T := List.mem_filter.mpr ⟨List.mem_append_right _ (List.mem_append_left _ (List.mem_of_getElem? (i := 108) rfl)), rfl⟩
theorem tw_1_110 : Cond.instanceMethod yX5_isFull ∈ g_T := List.mem_filter.mpr ⟨List.mem_append_right _ (List.mem_append_left _ (List.mem_of_getElem? (i := 110) rfl)), rfl⟩
theorem tw_p_0 : Cond.selects RX5 yX5_isFull yX5_isFull ∈ g_T := List.mem_filter.mpr ⟨List.mem_append_left _ (List.mem_of_getElem? (i := 0) rfl), rfl⟩
theorem tw_1_112 : Cond.methodLink RX5 59 yX3_setFromFirst ∈ g_T := List.mem_filter.mpr ⟨List.mem_append_right _ (List.mem_append_left _ (List.mem_of_getElem? (i := 112) rfl)), rfl⟩
theorem tw_1_113 : Cond.instanceMethod yX3_setFromFirst ∈ g_T := List.mem_filter.mpr ⟨List.mem_append_right _ (List.mem_append_left _ (List.mem_of_getElem? (i := 113) rfl)), rfl⟩
theorem tw_1_114 : Cond.selects RX3 yX3_setFromFirst yX3_setFromFirst ∈ g_T := List.mem_filter.mpr ⟨List.mem_append_right _ (List.mem_append_left _ (List.mem_of_getElem? (i := 114) rfl)), rfl⟩
theorem tw_1_120 : Cond.methodLink RX5 63 yX5_madeOfZeros ∈ g_T := List.mem_filter.mpr ⟨List.mem_append_right _ (List.mem_append_left _ (List.mem_of_getElem? (i := 120) rfl)), rfl⟩
theorem tw_1_122 : Cond.instanceMethod yX5_madeOfZeros ∈ g_T := List.mem_filter.mpr ⟨List.mem_append_right _ (List.mem_append_left _ (List.mem_of_getElem? (i := 122) rfl)), rfl⟩
theorem tw_p_2 : Cond.selects RX5 yX5_madeOfZeros yX5_madeOfZeros ∈ g_T := List.mem_filter.mpr ⟨List.mem_append_left _ (List.mem_of_getElem? (i := 2) rfl), rfl⟩
theorem tw_1_104 : Cond.code yX5_tensor cX5_tensor 2 (some .int) ∈ g_T := List.mem_filter.mpr ⟨List.mem_append_right _ (List.mem_append_left _ (List.mem_of_getElem? (i := 104) rfl)), rfl⟩
theorem tw_1_170 : Cond.code yX5_failed cX5_failed 3 (some .int) ∈ g_T := List.mem_filter.mpr ⟨List.mem_append_right _ (List.mem_append_left _ (List.mem_of_getElem? (i := 170) rfl)), rfl⟩
theorem tw_1_167 : Cond.methodLink RX5 67 yX5_failed ∈ g_T := List.mem_filter.mpr ⟨List.mem_append_right _ (List.mem_append_left _ (List.mem_of_getElem? (i := 167) rfl)), rfl⟩
theorem tw_1_169 : Cond.instanceMethod yX5_failed ∈ g_T := List.mem_filter.mpr ⟨List.mem_append_right _ (List.mem_append_left _ (List.mem_of_getElem? (i := 169) rfl)), rfl⟩
theorem tw_p_4 : Cond.selects RX5 yX5_failed yX5_failed ∈ g_T := List.mem_filter.mpr ⟨List.mem_append_left _ (List.mem_of_getElem? (i := 4) rfl), rfl⟩
theorem tw_1_166 : Cond.code yX5_shaped cX5_shaped 5 (some .int) ∈ g_T := List.mem_filter.mpr ⟨List.mem_append_right _ (List.mem_append_left _ (List.mem_of_getElem? (i := 166) rfl)), rfl⟩
theorem tw_1_178 : Cond.code yX5_known cX5_known 2 (some (.object "SpreadRules$Tensor")) ∈ g_T := List.mem_filter.mpr ⟨List.mem_append_right _ (List.mem_append_left _ (List.mem_of_getElem? (i := 178) rfl)), rfl⟩
theorem tw_1_175 : Cond.methodLink RX5 75 yX5_known ∈ g_T := List.mem_filter.mpr ⟨List.mem_append_right _ (List.mem_append_left _ (List.mem_of_getElem? (i := 175) rfl)), rfl⟩
theorem tw_1_177 : Cond.instanceMethod yX5_known ∈ g_T := List.mem_filter.mpr ⟨List.mem_append_right _ (List.mem_append_left _ (List.mem_of_getElem? (i := 177) rfl)), rfl⟩
theorem tw_p_5 : Cond.selects RX5 yX5_known yX5_known ∈ g_T := List.mem_filter.mpr ⟨List.mem_append_left _ (List.mem_of_getElem? (i := 5) rfl), rfl⟩
theorem tw_1_150 : Cond.fieldLink RX5 79 "SpreadRules$Tensor" "gone" "Z" ∈ g_T := List.mem_filter.mpr ⟨List.mem_append_right _ (List.mem_append_left _ (List.mem_of_getElem? (i := 150) rfl)), rfl⟩
theorem tw_1_174 : Cond.code yX5_free cX5_free 3 (some .int) ∈ g_T := List.mem_filter.mpr ⟨List.mem_append_right _ (List.mem_append_left _ (List.mem_of_getElem? (i := 174) rfl)), rfl⟩
theorem tw_1_182 : Cond.code yX5_setting cX5_setting 3 (some .int) ∈ g_T := List.mem_filter.mpr ⟨List.mem_append_right _ (List.mem_append_left _ (List.mem_of_getElem? (i := 182) rfl)), rfl⟩
theorem tw_1_187 : Cond.methodLink RX5 83 yX4_hasItem ∈ g_T := List.mem_filter.mpr ⟨List.mem_append_right _ (List.mem_append_left _ (List.mem_of_getElem? (i := 187) rfl)), rfl⟩
theorem tw_1_144 : Cond.fieldLink RX5 86 "SpreadRules$Tensor" "lane" "I" ∈ g_T := List.mem_filter.mpr ⟨List.mem_append_right _ (List.mem_append_left _ (List.mem_of_getElem? (i := 144) rfl)), rfl⟩
theorem tw_1_191 : Cond.methodLink RX5 89 yX1_lowestBits ∈ g_T := List.mem_filter.mpr ⟨List.mem_append_right _ (List.mem_append_left _ (List.mem_of_getElem? (i := 191) rfl)), rfl⟩
theorem tw_1_200 : Cond.methodLink RX5 93 yX4_write ∈ g_T := List.mem_filter.mpr ⟨List.mem_append_right _ (List.mem_append_left _ (List.mem_of_getElem? (i := 200) rfl)), rfl⟩
theorem tw_1_201 : Cond.instanceMethod yX4_write ∈ g_T := List.mem_filter.mpr ⟨List.mem_append_right _ (List.mem_append_left _ (List.mem_of_getElem? (i := 201) rfl)), rfl⟩
theorem tw_1_202 : Cond.selects RX4 yX4_write yX4_write ∈ g_T := List.mem_filter.mpr ⟨List.mem_append_right _ (List.mem_append_left _ (List.mem_of_getElem? (i := 202) rfl)), rfl⟩
theorem tw_1_186 : Cond.code yX5_item cX5_item 6 (some .int) ∈ g_T := List.mem_filter.mpr ⟨List.mem_append_right _ (List.mem_append_left _ (List.mem_of_getElem? (i := 186) rfl)), rfl⟩
theorem tw_1_209 : Cond.constantLong RX5 97 (-1) ∈ g_T := List.mem_filter.mpr ⟨List.mem_append_right _ (List.mem_append_left _ (List.mem_of_getElem? (i := 209) rfl)), rfl⟩
theorem tw_1_210 : Cond.methodLink RX5 99 yX4_read ∈ g_T := List.mem_filter.mpr ⟨List.mem_append_right _ (List.mem_append_left _ (List.mem_of_getElem? (i := 210) rfl)), rfl⟩
theorem tw_1_208 : Cond.code yX5_bits cX5_bits 5 (some .long) ∈ g_T := List.mem_filter.mpr ⟨List.mem_append_right _ (List.mem_append_left _ (List.mem_of_getElem? (i := 208) rfl)), rfl⟩
theorem tw_1_146 : Cond.fieldLink RX5 103 "SpreadRules$Tensor" "shape" "LSpreadRules$Shape;" ∈ g_T := List.mem_filter.mpr ⟨List.mem_append_right _ (List.mem_append_left _ (List.mem_of_getElem? (i := 146) rfl)), rfl⟩
theorem tw_1_218 : Cond.methodLink RX5 106 yX3_numberAt ∈ g_T := List.mem_filter.mpr ⟨List.mem_append_right _ (List.mem_append_left _ (List.mem_of_getElem? (i := 218) rfl)), rfl⟩
theorem tw_1_219 : Cond.instanceMethod yX3_numberAt ∈ g_T := List.mem_filter.mpr ⟨List.mem_append_right _ (List.mem_append_left _ (List.mem_of_getElem? (i := 219) rfl)), rfl⟩
theorem tw_1_220 : Cond.selects RX3 yX3_numberAt yX3_numberAt ∈ g_T := List.mem_filter.mpr ⟨List.mem_append_right _ (List.mem_append_left _ (List.mem_of_getElem? (i := 220) rfl)), rfl⟩
theorem tw_1_217 : Cond.code yX5_index cX5_index 7 (some .int) ∈ g_T := List.mem_filter.mpr ⟨List.mem_append_right _ (List.mem_append_left _ (List.mem_of_getElem? (i := 217) rfl)), rfl⟩
theorem tw_1_64 : Cond.fieldLink RX5 110 "SpreadRules$Shape" "rank" "I" ∈ g_T := List.mem_filter.mpr ⟨List.mem_append_right _ (List.mem_append_left _ (List.mem_of_getElem? (i := 64) rfl)), rfl⟩
theorem tw_1_230 : Cond.methodLink RX5 113 yX3_extentFromFirst ∈ g_T := List.mem_filter.mpr ⟨List.mem_append_right _ (List.mem_append_left _ (List.mem_of_getElem? (i := 230) rfl)), rfl⟩
theorem tw_1_229 : Cond.code yX5_of cX5_of 4 (some .int) ∈ g_T := List.mem_filter.mpr ⟨List.mem_append_right _ (List.mem_append_left _ (List.mem_of_getElem? (i := 229) rfl)), rfl⟩
theorem tw_2_20 : Cond.methodLink RX5 154 yX3_setAs ∈ g_T := List.mem_filter.mpr ⟨List.mem_append_right _ (List.mem_append_right _ (List.mem_append_left _ (List.mem_of_getElem? (i := 20) rfl))), rfl⟩
theorem tw_2_21 : Cond.methodLink RX5 168 yX3_spreadWith ∈ g_T := List.mem_filter.mpr ⟨List.mem_append_right _ (List.mem_append_right _ (List.mem_append_left _ (List.mem_of_getElem? (i := 21) rfl))), rfl⟩
theorem tw_2_22 : Cond.instanceMethod yX3_spreadWith ∈ g_T := List.mem_filter.mpr ⟨List.mem_append_right _ (List.mem_append_right _ (List.mem_append_left _ (List.mem_of_getElem? (i := 22) rfl))), rfl⟩
theorem tw_2_23 : Cond.selects RX3 yX3_spreadWith yX3_spreadWith ∈ g_T := List.mem_filter.mpr ⟨List.mem_append_right _ (List.mem_append_right _ (List.mem_append_left _ (List.mem_of_getElem? (i := 23) rfl))), rfl⟩
theorem tw_2_19 : Cond.code yX5_spreadOf cX5_spreadOf 3 (some .int) ∈ g_T := List.mem_filter.mpr ⟨List.mem_append_right _ (List.mem_append_right _ (List.mem_append_left _ (List.mem_of_getElem? (i := 19) rfl))), rfl⟩
theorem tw_2_30 : Cond.methodLink RX5 194 yX4_readSpread ∈ g_T := List.mem_filter.mpr ⟨List.mem_append_right _ (List.mem_append_right _ (List.mem_append_left _ (List.mem_of_getElem? (i := 30) rfl))), rfl⟩
theorem tw_2_31 : Cond.instanceMethod yX4_readSpread ∈ g_T := List.mem_filter.mpr ⟨List.mem_append_right _ (List.mem_append_right _ (List.mem_append_left _ (List.mem_of_getElem? (i := 31) rfl))), rfl⟩
theorem tw_2_32 : Cond.selects RX4 yX4_readSpread yX4_readSpread ∈ g_T := List.mem_filter.mpr ⟨List.mem_append_right _ (List.mem_append_right _ (List.mem_append_left _ (List.mem_of_getElem? (i := 32) rfl))), rfl⟩
theorem tw_2_39 : Cond.methodLink RX5 161 yX0_moved ∈ g_T := List.mem_filter.mpr ⟨List.mem_append_right _ (List.mem_append_right _ (List.mem_append_left _ (List.mem_of_getElem? (i := 39) rfl))), rfl⟩
theorem tw_2_40 : Cond.instanceMethod yX0_moved ∈ g_T := List.mem_filter.mpr ⟨List.mem_append_right _ (List.mem_append_right _ (List.mem_append_left _ (List.mem_of_getElem? (i := 40) rfl))), rfl⟩
theorem tw_2_41 : Cond.selects RX0 yX0_moved yX0_moved ∈ g_T := List.mem_filter.mpr ⟨List.mem_append_right _ (List.mem_append_right _ (List.mem_append_left _ (List.mem_of_getElem? (i := 41) rfl))), rfl⟩
theorem tw_2_102 : Cond.methodLink RX5 198 yX0_isByZero ∈ g_T := List.mem_filter.mpr ⟨List.mem_append_right _ (List.mem_append_right _ (List.mem_append_left _ (List.mem_of_getElem? (i := 102) rfl))), rfl⟩
theorem tw_2_103 : Cond.static yX0_isByZero ∈ g_T := List.mem_filter.mpr ⟨List.mem_append_right _ (List.mem_append_right _ (List.mem_append_left _ (List.mem_of_getElem? (i := 103) rfl))), rfl⟩
theorem tw_2_105 : Cond.methodLink RX5 202 yX0_ofTwo ∈ g_T := List.mem_filter.mpr ⟨List.mem_append_right _ (List.mem_append_right _ (List.mem_append_left _ (List.mem_of_getElem? (i := 105) rfl))), rfl⟩
theorem tw_2_106 : Cond.instanceMethod yX0_ofTwo ∈ g_T := List.mem_filter.mpr ⟨List.mem_append_right _ (List.mem_append_right _ (List.mem_append_left _ (List.mem_of_getElem? (i := 106) rfl))), rfl⟩
theorem tw_2_107 : Cond.selects RX0 yX0_ofTwo yX0_ofTwo ∈ g_T := List.mem_filter.mpr ⟨List.mem_append_right _ (List.mem_append_right _ (List.mem_append_left _ (List.mem_of_getElem? (i := 107) rfl))), rfl⟩
theorem tw_2_29 : Cond.code yX5_rowByAct cX5_rowByAct 12 (some .int) ∈ g_T := List.mem_filter.mpr ⟨List.mem_append_right _ (List.mem_append_right _ (List.mem_append_left _ (List.mem_of_getElem? (i := 29) rfl))), rfl⟩
theorem tw_1_235 : Cond.methodLink RX5 116 yX0_isAct ∈ g_T := List.mem_filter.mpr ⟨List.mem_append_right _ (List.mem_append_left _ (List.mem_of_getElem? (i := 235) rfl)), rfl⟩
theorem tw_1_236 : Cond.static yX0_isAct ∈ g_T := List.mem_filter.mpr ⟨List.mem_append_right _ (List.mem_append_left _ (List.mem_of_getElem? (i := 236) rfl)), rfl⟩
theorem tw_1_238 : Cond.methodLink RX5 119 yX1_ofAct ∈ g_T := List.mem_filter.mpr ⟨List.mem_append_right _ (List.mem_append_left _ (List.mem_of_getElem? (i := 238) rfl)), rfl⟩
theorem tw_1_239 : Cond.static yX1_ofAct ∈ g_T := List.mem_filter.mpr ⟨List.mem_append_right _ (List.mem_append_left _ (List.mem_of_getElem? (i := 239) rfl)), rfl⟩
theorem tw_2_16 : Cond.methodLink RX5 122 yX5_spreadOf ∈ g_T := List.mem_filter.mpr ⟨List.mem_append_right _ (List.mem_append_right _ (List.mem_append_left _ (List.mem_of_getElem? (i := 16) rfl))), rfl⟩
theorem tw_2_18 : Cond.instanceMethod yX5_spreadOf ∈ g_T := List.mem_filter.mpr ⟨List.mem_append_right _ (List.mem_append_right _ (List.mem_append_left _ (List.mem_of_getElem? (i := 18) rfl))), rfl⟩
theorem tw_p_6 : Cond.selects RX5 yX5_spreadOf yX5_spreadOf ∈ g_T := List.mem_filter.mpr ⟨List.mem_append_left _ (List.mem_of_getElem? (i := 6) rfl), rfl⟩
theorem tw_2_26 : Cond.methodLink RX5 126 yX5_rowByAct ∈ g_T := List.mem_filter.mpr ⟨List.mem_append_right _ (List.mem_append_right _ (List.mem_append_left _ (List.mem_of_getElem? (i := 26) rfl))), rfl⟩
theorem tw_2_28 : Cond.instanceMethod yX5_rowByAct ∈ g_T := List.mem_filter.mpr ⟨List.mem_append_right _ (List.mem_append_right _ (List.mem_append_left _ (List.mem_of_getElem? (i := 28) rfl))), rfl⟩
theorem tw_p_7 : Cond.selects RX5 yX5_rowByAct yX5_rowByAct ∈ g_T := List.mem_filter.mpr ⟨List.mem_append_left _ (List.mem_of_getElem? (i := 7) rfl), rfl⟩
theorem tw_2_196 : Cond.methodLink RX5 130 yX1_ofResult ∈ g_T := List.mem_filter.mpr ⟨List.mem_append_right _ (List.mem_append_right _ (List.mem_append_left _ (List.mem_of_getElem? (i := 196) rfl))), rfl⟩
theorem tw_2_197 : Cond.static yX1_ofResult ∈ g_T := List.mem_filter.mpr ⟨List.mem_append_right _ (List.mem_append_right _ (List.mem_append_left _ (List.mem_of_getElem? (i := 197) rfl))), rfl⟩
theorem tw_1_234 : Cond.code yX5_act cX5_act 9 (some .int) ∈ g_T := List.mem_filter.mpr ⟨List.mem_append_right _ (List.mem_append_left _ (List.mem_of_getElem? (i := 234) rfl)), rfl⟩
theorem tw_2_213 : Cond.code yX5_moveRowInto cX5_moveRowInto 4 none ∈ g_T := List.mem_filter.mpr ⟨List.mem_append_right _ (List.mem_append_right _ (List.mem_append_left _ (List.mem_of_getElem? (i := 213) rfl))), rfl⟩
theorem tw_2_203 : Cond.methodLink RX5 136 yX3_isLike ∈ g_T := List.mem_filter.mpr ⟨List.mem_append_right _ (List.mem_append_right _ (List.mem_append_left _ (List.mem_of_getElem? (i := 203) rfl))), rfl⟩
theorem tw_2_207 : Cond.methodLink RX5 140 yX1_mayHold ∈ g_T := List.mem_filter.mpr ⟨List.mem_append_right _ (List.mem_append_right _ (List.mem_append_left _ (List.mem_of_getElem? (i := 207) rfl))), rfl⟩
theorem tw_2_208 : Cond.static yX1_mayHold ∈ g_T := List.mem_filter.mpr ⟨List.mem_append_right _ (List.mem_append_right _ (List.mem_append_left _ (List.mem_of_getElem? (i := 208) rfl))), rfl⟩
theorem tw_2_210 : Cond.methodLink RX5 144 yX5_moveRowInto ∈ g_T := List.mem_filter.mpr ⟨List.mem_append_right _ (List.mem_append_right _ (List.mem_append_left _ (List.mem_of_getElem? (i := 210) rfl))), rfl⟩
theorem tw_2_212 : Cond.instanceMethod yX5_moveRowInto ∈ g_T := List.mem_filter.mpr ⟨List.mem_append_right _ (List.mem_append_right _ (List.mem_append_left _ (List.mem_of_getElem? (i := 212) rfl))), rfl⟩
theorem tw_p_16 : Cond.selects RX5 yX5_moveRowInto yX5_moveRowInto ∈ g_T := List.mem_filter.mpr ⟨List.mem_append_left _ (List.mem_of_getElem? (i := 16) rfl), rfl⟩
theorem tw_2_202 : Cond.code yX5_into cX5_into 12 (some .int) ∈ g_T := List.mem_filter.mpr ⟨List.mem_append_right _ (List.mem_append_right _ (List.mem_append_left _ (List.mem_of_getElem? (i := 202) rfl))), rfl⟩
theorem tw_2_218 : Cond.methodLink RX5 148 yX0_isOfOne ∈ g_T := List.mem_filter.mpr ⟨List.mem_append_right _ (List.mem_append_right _ (List.mem_append_left _ (List.mem_of_getElem? (i := 218) rfl))), rfl⟩
theorem tw_2_219 : Cond.static yX0_isOfOne ∈ g_T := List.mem_filter.mpr ⟨List.mem_append_right _ (List.mem_append_right _ (List.mem_append_left _ (List.mem_of_getElem? (i := 219) rfl))), rfl⟩
theorem tw_2_221 : Cond.methodLink RX5 151 yX1_ofOne ∈ g_T := List.mem_filter.mpr ⟨List.mem_append_right _ (List.mem_append_right _ (List.mem_append_left _ (List.mem_of_getElem? (i := 221) rfl))), rfl⟩
theorem tw_2_222 : Cond.static yX1_ofOne ∈ g_T := List.mem_filter.mpr ⟨List.mem_append_right _ (List.mem_append_right _ (List.mem_append_left _ (List.mem_of_getElem? (i := 222) rfl))), rfl⟩
theorem tw_2_224 : Cond.methodLink RX5 165 yX0_ofOne ∈ g_T := List.mem_filter.mpr ⟨List.mem_append_right _ (List.mem_append_right _ (List.mem_append_left _ (List.mem_of_getElem? (i := 224) rfl))), rfl⟩
theorem tw_2_225 : Cond.instanceMethod yX0_ofOne ∈ g_T := List.mem_filter.mpr ⟨List.mem_append_right _ (List.mem_append_right _ (List.mem_append_left _ (List.mem_of_getElem? (i := 225) rfl))), rfl⟩
theorem tw_2_226 : Cond.selects RX0 yX0_ofOne yX0_ofOne ∈ g_T := List.mem_filter.mpr ⟨List.mem_append_right _ (List.mem_append_right _ (List.mem_append_left _ (List.mem_of_getElem? (i := 226) rfl))), rfl⟩
theorem tw_2_217 : Cond.code yX5_one cX5_one 6 (some .int) ∈ g_T := List.mem_filter.mpr ⟨List.mem_append_right _ (List.mem_append_right _ (List.mem_append_left _ (List.mem_of_getElem? (i := 217) rfl))), rfl⟩
theorem tw_3_1 : Cond.code yX5_cast cX5_cast 5 (some .int) ∈ g_T := List.mem_filter.mpr ⟨List.mem_append_right _ (List.mem_append_right _ (List.mem_append_right _ (List.mem_append_left _ (List.mem_of_getElem? (i := 1) rfl)))), rfl⟩
theorem tw_3_10 : Cond.code yX5_rowByMask cX5_rowByMask 8 none ∈ g_T := List.mem_filter.mpr ⟨List.mem_append_right _ (List.mem_append_right _ (List.mem_append_right _ (List.mem_append_left _ (List.mem_of_getElem? (i := 10) rfl)))), rfl⟩
theorem tw_3_6 : Cond.methodLink RX5 172 yX1_joined ∈ g_T := List.mem_filter.mpr ⟨List.mem_append_right _ (List.mem_append_right _ (List.mem_append_right _ (List.mem_append_left _ (List.mem_of_getElem? (i := 6) rfl)))), rfl⟩
theorem tw_3_7 : Cond.methodLink RX5 175 yX5_rowByMask ∈ g_T := List.mem_filter.mpr ⟨List.mem_append_right _ (List.mem_append_right _ (List.mem_append_right _ (List.mem_append_left _ (List.mem_of_getElem? (i := 7) rfl)))), rfl⟩
theorem tw_3_9 : Cond.instanceMethod yX5_rowByMask ∈ g_T := List.mem_filter.mpr ⟨List.mem_append_right _ (List.mem_append_right _ (List.mem_append_right _ (List.mem_append_left _ (List.mem_of_getElem? (i := 9) rfl)))), rfl⟩
theorem tw_p_18 : Cond.selects RX5 yX5_rowByMask yX5_rowByMask ∈ g_T := List.mem_filter.mpr ⟨List.mem_append_left _ (List.mem_of_getElem? (i := 18) rfl), rfl⟩
theorem tw_3_5 : Cond.code yX5_where cX5_where 9 (some .int) ∈ g_T := List.mem_filter.mpr ⟨List.mem_append_right _ (List.mem_append_right _ (List.mem_append_right _ (List.mem_append_left _ (List.mem_of_getElem? (i := 5) rfl)))), rfl⟩
theorem tw_3_14 : Cond.code yX5_copy cX5_copy 8 (some .int) ∈ g_T := List.mem_filter.mpr ⟨List.mem_append_right _ (List.mem_append_right _ (List.mem_append_right _ (List.mem_append_left _ (List.mem_of_getElem? (i := 14) rfl)))), rfl⟩
theorem tw_3_19 : Cond.methodLink RX5 185 yX4_isLike ∈ g_T := List.mem_filter.mpr ⟨List.mem_append_right _ (List.mem_append_right _ (List.mem_append_right _ (List.mem_append_left _ (List.mem_of_getElem? (i := 19) rfl)))), rfl⟩
theorem tw_3_20 : Cond.instanceMethod yX4_isLike ∈ g_T := List.mem_filter.mpr ⟨List.mem_append_right _ (List.mem_append_right _ (List.mem_append_right _ (List.mem_append_left _ (List.mem_of_getElem? (i := 20) rfl)))), rfl⟩
theorem tw_3_21 : Cond.selects RX4 yX4_isLike yX4_isLike ∈ g_T := List.mem_filter.mpr ⟨List.mem_append_right _ (List.mem_append_right _ (List.mem_append_right _ (List.mem_append_left _ (List.mem_of_getElem? (i := 21) rfl)))), rfl⟩
theorem tw_3_18 : Cond.code yX5_same cX5_same 5 (some .int) ∈ g_T := List.mem_filter.mpr ⟨List.mem_append_right _ (List.mem_append_right _ (List.mem_append_right _ (List.mem_append_left _ (List.mem_of_getElem? (i := 18) rfl)))), rfl⟩
theorem tw_3_27 : Cond.code yX5_place cX5_place 1 (some .int) ∈ g_T := List.mem_filter.mpr ⟨List.mem_append_right _ (List.mem_append_right _ (List.mem_append_right _ (List.mem_append_left _ (List.mem_of_getElem? (i := 27) rfl)))), rfl⟩
theorem tw_3_35 : Cond.code yX5_notGone cX5_notGone 4 (some .int) ∈ g_T := List.mem_filter.mpr ⟨List.mem_append_right _ (List.mem_append_right _ (List.mem_append_right _ (List.mem_append_left _ (List.mem_of_getElem? (i := 35) rfl)))), rfl⟩
theorem tw_3_32 : Cond.methodLink RX5 188 yX5_notGone ∈ g_T := List.mem_filter.mpr ⟨List.mem_append_right _ (List.mem_append_right _ (List.mem_append_right _ (List.mem_append_left _ (List.mem_of_getElem? (i := 32) rfl)))), rfl⟩
theorem tw_3_34 : Cond.instanceMethod yX5_notGone ∈ g_T := List.mem_filter.mpr ⟨List.mem_append_right _ (List.mem_append_right _ (List.mem_append_right _ (List.mem_append_left _ (List.mem_of_getElem? (i := 34) rfl)))), rfl⟩
theorem tw_p_19 : Cond.selects RX5 yX5_notGone yX5_notGone ∈ g_T := List.mem_filter.mpr ⟨List.mem_append_left _ (List.mem_of_getElem? (i := 19) rfl), rfl⟩
theorem tw_3_31 : Cond.code yX5_count cX5_count 2 (some .int) ∈ g_T := List.mem_filter.mpr ⟨List.mem_append_right _ (List.mem_append_right _ (List.mem_append_right _ (List.mem_append_left _ (List.mem_of_getElem? (i := 31) rfl)))), rfl⟩
theorem tw_3_41 : Cond.methodLink RX6 1 objectInit ∈ g_T := List.mem_filter.mpr ⟨List.mem_append_right _ (List.mem_append_right _ (List.mem_append_right _ (List.mem_append_left _ (List.mem_of_getElem? (i := 41) rfl)))), rfl⟩
theorem tw_3_43 : Cond.fieldLink RX6 7 "SpreadRulesModel" "lanes" "[I" ∈ g_T := List.mem_filter.mpr ⟨List.mem_append_right _ (List.mem_append_right _ (List.mem_append_right _ (List.mem_append_left _ (List.mem_of_getElem? (i := 43) rfl)))), rfl⟩
theorem tw_3_44 : Cond.fieldLink RX6 13 "SpreadRulesModel" "dims" "[I" ∈ g_T := List.mem_filter.mpr ⟨List.mem_append_right _ (List.mem_append_right _ (List.mem_append_right _ (List.mem_append_left _ (List.mem_of_getElem? (i := 44) rfl)))), rfl⟩
theorem tw_3_45 : Cond.fieldLink RX6 16 "SpreadRulesModel" "extents" "[I" ∈ g_T := List.mem_filter.mpr ⟨List.mem_append_right _ (List.mem_append_right _ (List.mem_append_right _ (List.mem_append_left _ (List.mem_of_getElem? (i := 45) rfl)))), rfl⟩
theorem tw_3_46 : Cond.fieldLink RX6 19 "SpreadRulesModel" "sizes" "[I" ∈ g_T := List.mem_filter.mpr ⟨List.mem_append_right _ (List.mem_append_right _ (List.mem_append_right _ (List.mem_append_left _ (List.mem_of_getElem? (i := 46) rfl)))), rfl⟩
theorem tw_3_94 : Cond.arrayClass .boolean ∈ g_T := List.mem_filter.mpr ⟨List.mem_append_right _ (List.mem_append_right _ (List.mem_append_right _ (List.mem_append_left _ (List.mem_of_getElem? (i := 94) rfl)))), rfl⟩
theorem tw_3_47 : Cond.fieldLink RX6 22 "SpreadRulesModel" "gone" "[Z" ∈ g_T := List.mem_filter.mpr ⟨List.mem_append_right _ (List.mem_append_right _ (List.mem_append_right _ (List.mem_append_left _ (List.mem_of_getElem? (i := 47) rfl)))), rfl⟩
theorem tw_3_48 : Cond.fieldLink RX6 26 "SpreadRulesModel" "items" "[J" ∈ g_T := List.mem_filter.mpr ⟨List.mem_append_right _ (List.mem_append_right _ (List.mem_append_right _ (List.mem_append_left _ (List.mem_of_getElem? (i := 48) rfl)))), rfl⟩
theorem tw_3_49 : Cond.fieldLink RX6 30 "SpreadRulesModel" "aside" "[J" ∈ g_T := List.mem_filter.mpr ⟨List.mem_append_right _ (List.mem_append_right _ (List.mem_append_right _ (List.mem_append_left _ (List.mem_of_getElem? (i := 49) rfl)))), rfl⟩
theorem tw_3_53 : Cond.fieldLink RX6 33 "SpreadRulesModel" "place" "I" ∈ g_T := List.mem_filter.mpr ⟨List.mem_append_right _ (List.mem_append_right _ (List.mem_append_right _ (List.mem_append_left _ (List.mem_of_getElem? (i := 53) rfl)))), rfl⟩
theorem tw_3_54 : Cond.fieldLink RX6 37 "SpreadRulesModel" "spread" "[I" ∈ g_T := List.mem_filter.mpr ⟨List.mem_append_right _ (List.mem_append_right _ (List.mem_append_right _ (List.mem_append_left _ (List.mem_of_getElem? (i := 54) rfl)))), rfl⟩
theorem tw_3_40 : Cond.code yX6_init cX6_init 1 none ∈ g_T := List.mem_filter.mpr ⟨List.mem_append_right _ (List.mem_append_right _ (List.mem_append_right _ (List.mem_append_left _ (List.mem_of_getElem? (i := 40) rfl)))), rfl⟩
theorem tw_1_5 : Cond.initialized RX6 ∈ g_T := List.mem_filter.mpr ⟨List.mem_append_right _ (List.mem_append_left _ (List.mem_of_getElem? (i := 5) rfl)), rfl⟩
theorem tw_3_102 : Cond.code yX6_in cX6_in 6 (some .boolean) ∈ g_T := List.mem_filter.mpr ⟨List.mem_append_right _ (List.mem_append_right _ (List.mem_append_right _ (List.mem_append_left _ (List.mem_of_getElem? (i := 102) rfl)))), rfl⟩
theorem tw_3_213 : Cond.code yX6_digitsOf cX6_digitsOf 1 (some .int) ∈ g_T := List.mem_filter.mpr ⟨List.mem_append_right _ (List.mem_append_right _ (List.mem_append_right _ (List.mem_append_left _ (List.mem_of_getElem? (i := 213) rfl)))), rfl⟩
theorem tw_3_216 : Cond.code yX6_leastOf cX6_leastOf 1 (some .int) ∈ g_T := List.mem_filter.mpr ⟨List.mem_append_right _ (List.mem_append_right _ (List.mem_append_right _ (List.mem_append_left _ (List.mem_of_getElem? (i := 216) rfl)))), rfl⟩
theorem tw_3_219 : Cond.code yX6_topOf cX6_topOf 1 (some .int) ∈ g_T := List.mem_filter.mpr ⟨List.mem_append_right _ (List.mem_append_right _ (List.mem_append_right _ (List.mem_append_left _ (List.mem_of_getElem? (i := 219) rfl)))), rfl⟩
theorem tw_3_140 : Cond.constantLong RX6 40 (9223372036854775807) ∈ g_T := List.mem_filter.mpr ⟨List.mem_append_right _ (List.mem_append_right _ (List.mem_append_right _ (List.mem_append_left _ (List.mem_of_getElem? (i := 140) rfl)))), rfl⟩
theorem tw_3_141 : Cond.constantLong RX6 42 (9218868437227405312) ∈ g_T := List.mem_filter.mpr ⟨List.mem_append_right _ (List.mem_append_right _ (List.mem_append_right _ (List.mem_append_left _ (List.mem_of_getElem? (i := 141) rfl)))), rfl⟩
theorem tw_3_139 : Cond.code yX6_isNan cX6_isNan 2 (some .boolean) ∈ g_T := List.mem_filter.mpr ⟨List.mem_append_right _ (List.mem_append_right _ (List.mem_append_right _ (List.mem_append_left _ (List.mem_of_getElem? (i := 139) rfl)))), rfl⟩
theorem tw_3_231 : Cond.code yX6_isInfinite cX6_isInfinite 2 (some .boolean) ∈ g_T := List.mem_filter.mpr ⟨List.mem_append_right _ (List.mem_append_right _ (List.mem_append_right _ (List.mem_append_left _ (List.mem_of_getElem? (i := 231) rfl)))), rfl⟩
theorem tw_4_3 : Cond.code yX6_isZero cX6_isZero 2 (some .boolean) ∈ g_T := List.mem_filter.mpr ⟨List.mem_append_right _ (List.mem_append_right _ (List.mem_append_right _ (List.mem_append_right _ (List.mem_of_getElem? (i := 3) rfl)))), rfl⟩
theorem tw_3_223 : Cond.constantLong RX6 44 (4503599627370495) ∈ g_T := List.mem_filter.mpr ⟨List.mem_append_right _ (List.mem_append_right _ (List.mem_append_right _ (List.mem_append_left _ (List.mem_of_getElem? (i := 223) rfl)))), rfl⟩
theorem tw_3_236 : Cond.constantLong RX6 46 (2047) ∈ g_T := List.mem_filter.mpr ⟨List.mem_append_right _ (List.mem_append_right _ (List.mem_append_right _ (List.mem_append_left _ (List.mem_of_getElem? (i := 236) rfl)))), rfl⟩
theorem tw_3_237 : Cond.constantLong RX6 48 (4503599627370496) ∈ g_T := List.mem_filter.mpr ⟨List.mem_append_right _ (List.mem_append_right _ (List.mem_append_right _ (List.mem_append_left _ (List.mem_of_getElem? (i := 237) rfl)))), rfl⟩
theorem tw_3_235 : Cond.code yX6_mantissa cX6_mantissa 4 (some .long) ∈ g_T := List.mem_filter.mpr ⟨List.mem_append_right _ (List.mem_append_right _ (List.mem_append_right _ (List.mem_append_left _ (List.mem_of_getElem? (i := 235) rfl)))), rfl⟩
theorem tw_4_0 : Cond.code yX6_exponent cX6_exponent 3 (some .int) ∈ g_T := List.mem_filter.mpr ⟨List.mem_append_right _ (List.mem_append_right _ (List.mem_append_right _ (List.mem_append_right _ (List.mem_of_getElem? (i := 0) rfl)))), rfl⟩
theorem tw_3_203 : Cond.code yX6_length cX6_length 5 (some .int) ∈ g_T := List.mem_filter.mpr ⟨List.mem_append_right _ (List.mem_append_right _ (List.mem_append_right _ (List.mem_append_left _ (List.mem_of_getElem? (i := 203) rfl)))), rfl⟩
theorem tw_3_210 : Cond.constantLong RX6 50 (-9223372036854775808) ∈ g_T := List.mem_filter.mpr ⟨List.mem_append_right _ (List.mem_append_right _ (List.mem_append_right _ (List.mem_append_left _ (List.mem_of_getElem? (i := 210) rfl)))), rfl⟩
theorem tw_3_209 : Cond.code yX6_signed cX6_signed 3 (some .long) ∈ g_T := List.mem_filter.mpr ⟨List.mem_append_right _ (List.mem_append_right _ (List.mem_append_right _ (List.mem_append_left _ (List.mem_of_getElem? (i := 209) rfl)))), rfl⟩
theorem tw_3_201 : Cond.methodLink RX6 56 yX6_length ∈ g_T := List.mem_filter.mpr ⟨List.mem_append_right _ (List.mem_append_right _ (List.mem_append_right _ (List.mem_append_left _ (List.mem_of_getElem? (i := 201) rfl)))), rfl⟩
theorem tw_3_202 : Cond.static yX6_length ∈ g_T := List.mem_filter.mpr ⟨List.mem_append_right _ (List.mem_append_right _ (List.mem_append_right _ (List.mem_append_left _ (List.mem_of_getElem? (i := 202) rfl)))), rfl⟩
theorem tw_3_207 : Cond.methodLink RX6 52 yX6_signed ∈ g_T := List.mem_filter.mpr ⟨List.mem_append_right _ (List.mem_append_right _ (List.mem_append_right _ (List.mem_append_left _ (List.mem_of_getElem? (i := 207) rfl)))), rfl⟩
theorem tw_3_208 : Cond.static yX6_signed ∈ g_T := List.mem_filter.mpr ⟨List.mem_append_right _ (List.mem_append_right _ (List.mem_append_right _ (List.mem_append_left _ (List.mem_of_getElem? (i := 208) rfl)))), rfl⟩
theorem tw_3_222 : Cond.code yX6_pack cX6_pack 8 (some .long) ∈ g_T := List.mem_filter.mpr ⟨List.mem_append_right _ (List.mem_append_right _ (List.mem_append_right _ (List.mem_append_left _ (List.mem_of_getElem? (i := 222) rfl)))), rfl⟩
theorem tw_3_211 : Cond.methodLink RX6 60 yX6_digitsOf ∈ g_T := List.mem_filter.mpr ⟨List.mem_append_right _ (List.mem_append_right _ (List.mem_append_right _ (List.mem_append_left _ (List.mem_of_getElem? (i := 211) rfl)))), rfl⟩
theorem tw_3_212 : Cond.static yX6_digitsOf ∈ g_T := List.mem_filter.mpr ⟨List.mem_append_right _ (List.mem_append_right _ (List.mem_append_right _ (List.mem_append_left _ (List.mem_of_getElem? (i := 212) rfl)))), rfl⟩
theorem tw_3_214 : Cond.methodLink RX6 64 yX6_leastOf ∈ g_T := List.mem_filter.mpr ⟨List.mem_append_right _ (List.mem_append_right _ (List.mem_append_right _ (List.mem_append_left _ (List.mem_of_getElem? (i := 214) rfl)))), rfl⟩
theorem tw_3_215 : Cond.static yX6_leastOf ∈ g_T := List.mem_filter.mpr ⟨List.mem_append_right _ (List.mem_append_right _ (List.mem_append_right _ (List.mem_append_left _ (List.mem_of_getElem? (i := 215) rfl)))), rfl⟩
theorem tw_3_217 : Cond.methodLink RX6 67 yX6_topOf ∈ g_T := List.mem_filter.mpr ⟨List.mem_append_right _ (List.mem_append_right _ (List.mem_append_right _ (List.mem_append_left _ (List.mem_of_getElem? (i := 217) rfl)))), rfl⟩
theorem tw_3_218 : Cond.static yX6_topOf ∈ g_T := List.mem_filter.mpr ⟨List.mem_append_right _ (List.mem_append_right _ (List.mem_append_right _ (List.mem_append_left _ (List.mem_of_getElem? (i := 218) rfl)))), rfl⟩
theorem tw_3_220 : Cond.methodLink RX6 70 yX6_pack ∈ g_T := List.mem_filter.mpr ⟨List.mem_append_right _ (List.mem_append_right _ (List.mem_append_right _ (List.mem_append_left _ (List.mem_of_getElem? (i := 220) rfl)))), rfl⟩
theorem tw_3_221 : Cond.static yX6_pack ∈ g_T := List.mem_filter.mpr ⟨List.mem_append_right _ (List.mem_append_right _ (List.mem_append_right _ (List.mem_append_left _ (List.mem_of_getElem? (i := 221) rfl)))), rfl⟩
theorem tw_3_206 : Cond.code yX6_fit cX6_fit 15 (some .long) ∈ g_T := List.mem_filter.mpr ⟨List.mem_append_right _ (List.mem_append_right _ (List.mem_append_right _ (List.mem_append_left _ (List.mem_of_getElem? (i := 206) rfl)))), rfl⟩
theorem tw_3_137 : Cond.methodLink RX6 74 yX6_isNan ∈ g_T := List.mem_filter.mpr ⟨List.mem_append_right _ (List.mem_append_right _ (List.mem_append_right _ (List.mem_append_left _ (List.mem_of_getElem? (i := 137) rfl)))), rfl⟩
theorem tw_3_138 : Cond.static yX6_isNan ∈ g_T := List.mem_filter.mpr ⟨List.mem_append_right _ (List.mem_append_right _ (List.mem_append_right _ (List.mem_append_left _ (List.mem_of_getElem? (i := 138) rfl)))), rfl⟩
theorem tw_3_229 : Cond.methodLink RX6 80 yX6_isInfinite ∈ g_T := List.mem_filter.mpr ⟨List.mem_append_right _ (List.mem_append_right _ (List.mem_append_right _ (List.mem_append_left _ (List.mem_of_getElem? (i := 229) rfl)))), rfl⟩
theorem tw_3_230 : Cond.static yX6_isInfinite ∈ g_T := List.mem_filter.mpr ⟨List.mem_append_right _ (List.mem_append_right _ (List.mem_append_right _ (List.mem_append_left _ (List.mem_of_getElem? (i := 230) rfl)))), rfl⟩
theorem tw_3_142 : Cond.constantLong RX6 78 (9221120237041090560) ∈ g_T := List.mem_filter.mpr ⟨List.mem_append_right _ (List.mem_append_right _ (List.mem_append_right _ (List.mem_append_left _ (List.mem_of_getElem? (i := 142) rfl)))), rfl⟩
theorem tw_3_233 : Cond.methodLink RX6 83 yX6_mantissa ∈ g_T := List.mem_filter.mpr ⟨List.mem_append_right _ (List.mem_append_right _ (List.mem_append_right _ (List.mem_append_left _ (List.mem_of_getElem? (i := 233) rfl)))), rfl⟩
theorem tw_3_234 : Cond.static yX6_mantissa ∈ g_T := List.mem_filter.mpr ⟨List.mem_append_right _ (List.mem_append_right _ (List.mem_append_right _ (List.mem_append_left _ (List.mem_of_getElem? (i := 234) rfl)))), rfl⟩
theorem tw_3_238 : Cond.methodLink RX6 87 yX6_exponent ∈ g_T := List.mem_filter.mpr ⟨List.mem_append_right _ (List.mem_append_right _ (List.mem_append_right _ (List.mem_append_left _ (List.mem_of_getElem? (i := 238) rfl)))), rfl⟩
theorem tw_3_239 : Cond.static yX6_exponent ∈ g_T := List.mem_filter.mpr ⟨List.mem_append_right _ (List.mem_append_right _ (List.mem_append_right _ (List.mem_append_left _ (List.mem_of_getElem? (i := 239) rfl)))), rfl⟩
theorem tw_3_204 : Cond.methodLink RX6 90 yX6_fit ∈ g_T := List.mem_filter.mpr ⟨List.mem_append_right _ (List.mem_append_right _ (List.mem_append_right _ (List.mem_append_left _ (List.mem_of_getElem? (i := 204) rfl)))), rfl⟩
theorem tw_3_205 : Cond.static yX6_fit ∈ g_T := List.mem_filter.mpr ⟨List.mem_append_right _ (List.mem_append_right _ (List.mem_append_right _ (List.mem_append_left _ (List.mem_of_getElem? (i := 205) rfl)))), rfl⟩
theorem tw_4_16 : Cond.code yX6_nearest cX6_nearest 3 (some .long) ∈ g_T := List.mem_filter.mpr ⟨List.mem_append_right _ (List.mem_append_right _ (List.mem_append_right _ (List.mem_append_right _ (List.mem_of_getElem? (i := 16) rfl)))), rfl⟩
theorem tw_3_224 : Cond.constantLong RX6 94 (3) ∈ g_T := List.mem_filter.mpr ⟨List.mem_append_right _ (List.mem_append_right _ (List.mem_append_right _ (List.mem_append_left _ (List.mem_of_getElem? (i := 224) rfl)))), rfl⟩
theorem tw_3_200 : Cond.code yX6_ofWhole cX6_ofWhole 6 (some .long) ∈ g_T := List.mem_filter.mpr ⟨List.mem_append_right _ (List.mem_append_right _ (List.mem_append_right _ (List.mem_append_left _ (List.mem_of_getElem? (i := 200) rfl)))), rfl⟩
theorem tw_3_228 : Cond.constantLong RX6 98 (-2147483648) ∈ g_T := List.mem_filter.mpr ⟨List.mem_append_right _ (List.mem_append_right _ (List.mem_append_right _ (List.mem_append_left _ (List.mem_of_getElem? (i := 228) rfl)))), rfl⟩
theorem tw_3_136 : Cond.constantLong RX6 96 (2143289344) ∈ g_T := List.mem_filter.mpr ⟨List.mem_append_right _ (List.mem_append_right _ (List.mem_append_right _ (List.mem_append_left _ (List.mem_of_getElem? (i := 136) rfl)))), rfl⟩
theorem tw_4_1 : Cond.methodLink RX6 102 yX6_isZero ∈ g_T := List.mem_filter.mpr ⟨List.mem_append_right _ (List.mem_append_right _ (List.mem_append_right _ (List.mem_append_right _ (List.mem_of_getElem? (i := 1) rfl)))), rfl⟩
theorem tw_4_2 : Cond.static yX6_isZero ∈ g_T := List.mem_filter.mpr ⟨List.mem_append_right _ (List.mem_append_right _ (List.mem_append_right _ (List.mem_append_right _ (List.mem_of_getElem? (i := 2) rfl)))), rfl⟩
theorem tw_4_4 : Cond.constantLong RX6 105 (8388607) ∈ g_T := List.mem_filter.mpr ⟨List.mem_append_right _ (List.mem_append_right _ (List.mem_append_right _ (List.mem_append_right _ (List.mem_of_getElem? (i := 4) rfl)))), rfl⟩
theorem tw_3_232 : Cond.constantLong RX6 100 (2139095040) ∈ g_T := List.mem_filter.mpr ⟨List.mem_append_right _ (List.mem_append_right _ (List.mem_append_right _ (List.mem_append_left _ (List.mem_of_getElem? (i := 232) rfl)))), rfl⟩
theorem tw_3_227 : Cond.code yX6_floatBits cX6_floatBits 6 (some .long) ∈ g_T := List.mem_filter.mpr ⟨List.mem_append_right _ (List.mem_append_right _ (List.mem_append_right _ (List.mem_append_left _ (List.mem_of_getElem? (i := 227) rfl)))), rfl⟩
theorem tw_4_8 : Cond.constantLong RX6 107 (255) ∈ g_T := List.mem_filter.mpr ⟨List.mem_append_right _ (List.mem_append_right _ (List.mem_append_right _ (List.mem_append_right _ (List.mem_of_getElem? (i := 8) rfl)))), rfl⟩
theorem tw_4_9 : Cond.constantLong RX6 109 (8388608) ∈ g_T := List.mem_filter.mpr ⟨List.mem_append_right _ (List.mem_append_right _ (List.mem_append_right _ (List.mem_append_right _ (List.mem_of_getElem? (i := 9) rfl)))), rfl⟩
theorem tw_4_7 : Cond.code yX6_wide cX6_wide 6 (some .long) ∈ g_T := List.mem_filter.mpr ⟨List.mem_append_right _ (List.mem_append_right _ (List.mem_append_right _ (List.mem_append_right _ (List.mem_of_getElem? (i := 7) rfl)))), rfl⟩
theorem tw_4_35 : Cond.constantLong RX6 111 (134217727) ∈ g_T := List.mem_filter.mpr ⟨List.mem_append_right _ (List.mem_append_right _ (List.mem_append_right _ (List.mem_append_right _ (List.mem_of_getElem? (i := 35) rfl)))), rfl⟩
theorem tw_4_36 : Cond.constantLong RX6 113 (18014398509481983) ∈ g_T := List.mem_filter.mpr ⟨List.mem_append_right _ (List.mem_append_right _ (List.mem_append_right _ (List.mem_append_right _ (List.mem_of_getElem? (i := 36) rfl)))), rfl⟩
theorem tw_4_34 : Cond.code yX6_times cX6_times 21 (some .long) ∈ g_T := List.mem_filter.mpr ⟨List.mem_append_right _ (List.mem_append_right _ (List.mem_append_right _ (List.mem_append_right _ (List.mem_of_getElem? (i := 34) rfl)))), rfl⟩
theorem tw_4_28 : Cond.code yX6_plus cX6_plus 20 (some .long) ∈ g_T := List.mem_filter.mpr ⟨List.mem_append_right _ (List.mem_append_right _ (List.mem_append_right _ (List.mem_append_right _ (List.mem_of_getElem? (i := 28) rfl)))), rfl⟩
theorem tw_4_31 : Cond.code yX6_other cX6_other 2 (some .long) ∈ g_T := List.mem_filter.mpr ⟨List.mem_append_right _ (List.mem_append_right _ (List.mem_append_right _ (List.mem_append_right _ (List.mem_of_getElem? (i := 31) rfl)))), rfl⟩
theorem tw_4_39 : Cond.code yX6_over cX6_over 13 (some .long) ∈ g_T := List.mem_filter.mpr ⟨List.mem_append_right _ (List.mem_append_right _ (List.mem_append_right _ (List.mem_append_right _ (List.mem_of_getElem? (i := 39) rfl)))), rfl⟩
theorem tw_4_46 : Cond.constantLong RX6 115 (2) ∈ g_T := List.mem_filter.mpr ⟨List.mem_append_right _ (List.mem_append_right _ (List.mem_append_right _ (List.mem_append_right _ (List.mem_of_getElem? (i := 46) rfl)))), rfl⟩
theorem tw_4_45 : Cond.code yX6_left cX6_left 12 (some .long) ∈ g_T := List.mem_filter.mpr ⟨List.mem_append_right _ (List.mem_append_right _ (List.mem_append_right _ (List.mem_append_right _ (List.mem_of_getElem? (i := 45) rfl)))), rfl⟩
theorem tw_4_42 : Cond.code yX6_cut cX6_cut 13 (some .long) ∈ g_T := List.mem_filter.mpr ⟨List.mem_append_right _ (List.mem_append_right _ (List.mem_append_right _ (List.mem_append_right _ (List.mem_of_getElem? (i := 42) rfl)))), rfl⟩
theorem tw_3_147 : Cond.constantLong RX6 117 (-1) ∈ g_T := List.mem_filter.mpr ⟨List.mem_append_right _ (List.mem_append_right _ (List.mem_append_right _ (List.mem_append_left _ (List.mem_of_getElem? (i := 147) rfl)))), rfl⟩
theorem tw_4_22 : Cond.code yX6_rank cX6_rank 2 (some .long) ∈ g_T := List.mem_filter.mpr ⟨List.mem_append_right _ (List.mem_append_right _ (List.mem_append_right _ (List.mem_append_right _ (List.mem_of_getElem? (i := 22) rfl)))), rfl⟩
theorem tw_4_12 : Cond.code yX6_number cX6_number 11 (some .long) ∈ g_T := List.mem_filter.mpr ⟨List.mem_append_right _ (List.mem_append_right _ (List.mem_append_right _ (List.mem_append_right _ (List.mem_of_getElem? (i := 12) rfl)))), rfl⟩
theorem tw_3_134 : Cond.constant RX6 119 (2147483647) ∈ g_T := List.mem_filter.mpr ⟨List.mem_append_right _ (List.mem_append_right _ (List.mem_append_right _ (List.mem_append_left _ (List.mem_of_getElem? (i := 134) rfl)))), rfl⟩
theorem tw_3_135 : Cond.constant RX6 120 (2139095040) ∈ g_T := List.mem_filter.mpr ⟨List.mem_append_right _ (List.mem_append_right _ (List.mem_append_right _ (List.mem_append_left _ (List.mem_of_getElem? (i := 135) rfl)))), rfl⟩
theorem tw_3_133 : Cond.code yX6_kept cX6_kept 4 (some .long) ∈ g_T := List.mem_filter.mpr ⟨List.mem_append_right _ (List.mem_append_right _ (List.mem_append_right _ (List.mem_append_left _ (List.mem_of_getElem? (i := 133) rfl)))), rfl⟩
theorem tw_4_5 : Cond.methodLink RX6 131 yX6_wide ∈ g_T := List.mem_filter.mpr ⟨List.mem_append_right _ (List.mem_append_right _ (List.mem_append_right _ (List.mem_append_right _ (List.mem_of_getElem? (i := 5) rfl)))), rfl⟩
theorem tw_4_6 : Cond.static yX6_wide ∈ g_T := List.mem_filter.mpr ⟨List.mem_append_right _ (List.mem_append_right _ (List.mem_append_right _ (List.mem_append_right _ (List.mem_of_getElem? (i := 6) rfl)))), rfl⟩
theorem tw_3_198 : Cond.methodLink RX6 125 yX6_ofWhole ∈ g_T := List.mem_filter.mpr ⟨List.mem_append_right _ (List.mem_append_right _ (List.mem_append_right _ (List.mem_append_left _ (List.mem_of_getElem? (i := 198) rfl)))), rfl⟩
theorem tw_3_199 : Cond.static yX6_ofWhole ∈ g_T := List.mem_filter.mpr ⟨List.mem_append_right _ (List.mem_append_right _ (List.mem_append_right _ (List.mem_append_left _ (List.mem_of_getElem? (i := 199) rfl)))), rfl⟩
theorem tw_3_225 : Cond.methodLink RX6 128 yX6_floatBits ∈ g_T := List.mem_filter.mpr ⟨List.mem_append_right _ (List.mem_append_right _ (List.mem_append_right _ (List.mem_append_left _ (List.mem_of_getElem? (i := 225) rfl)))), rfl⟩
theorem tw_3_226 : Cond.static yX6_floatBits ∈ g_T := List.mem_filter.mpr ⟨List.mem_append_right _ (List.mem_append_right _ (List.mem_append_right _ (List.mem_append_left _ (List.mem_of_getElem? (i := 226) rfl)))), rfl⟩
theorem tw_3_131 : Cond.methodLink RX6 121 yX6_kept ∈ g_T := List.mem_filter.mpr ⟨List.mem_append_right _ (List.mem_append_right _ (List.mem_append_right _ (List.mem_append_left _ (List.mem_of_getElem? (i := 131) rfl)))), rfl⟩
theorem tw_3_132 : Cond.static yX6_kept ∈ g_T := List.mem_filter.mpr ⟨List.mem_append_right _ (List.mem_append_right _ (List.mem_append_right _ (List.mem_append_left _ (List.mem_of_getElem? (i := 132) rfl)))), rfl⟩
theorem tw_4_14 : Cond.methodLink RX6 140 yX6_nearest ∈ g_T := List.mem_filter.mpr ⟨List.mem_append_right _ (List.mem_append_right _ (List.mem_append_right _ (List.mem_append_right _ (List.mem_of_getElem? (i := 14) rfl)))), rfl⟩
theorem tw_4_15 : Cond.static yX6_nearest ∈ g_T := List.mem_filter.mpr ⟨List.mem_append_right _ (List.mem_append_right _ (List.mem_append_right _ (List.mem_append_right _ (List.mem_of_getElem? (i := 15) rfl)))), rfl⟩
theorem tw_4_13 : Cond.constantLong RX6 138 (2147483647) ∈ g_T := List.mem_filter.mpr ⟨List.mem_append_right _ (List.mem_append_right _ (List.mem_append_right _ (List.mem_append_right _ (List.mem_of_getElem? (i := 13) rfl)))), rfl⟩
theorem tw_4_10 : Cond.methodLink RX6 134 yX6_number ∈ g_T := List.mem_filter.mpr ⟨List.mem_append_right _ (List.mem_append_right _ (List.mem_append_right _ (List.mem_append_right _ (List.mem_of_getElem? (i := 10) rfl)))), rfl⟩
theorem tw_4_11 : Cond.static yX6_number ∈ g_T := List.mem_filter.mpr ⟨List.mem_append_right _ (List.mem_append_right _ (List.mem_append_right _ (List.mem_append_right _ (List.mem_of_getElem? (i := 11) rfl)))), rfl⟩
theorem tw_3_197 : Cond.code yX6_to cX6_to 6 (some .long) ∈ g_T := List.mem_filter.mpr ⟨List.mem_append_right _ (List.mem_append_right _ (List.mem_append_right _ (List.mem_append_left _ (List.mem_of_getElem? (i := 197) rfl)))), rfl⟩
theorem tw_3_167 : Cond.code yX6_joined cX6_joined 4 (some .int) ∈ g_T := List.mem_filter.mpr ⟨List.mem_append_right _ (List.mem_append_right _ (List.mem_append_right _ (List.mem_append_left _ (List.mem_of_getElem? (i := 167) rfl)))), rfl⟩
theorem tw_3_52 : Cond.fieldLink RX6 143 "SpreadRulesModel" "failures" "I" ∈ g_T := List.mem_filter.mpr ⟨List.mem_append_right _ (List.mem_append_right _ (List.mem_append_right _ (List.mem_append_left _ (List.mem_of_getElem? (i := 52) rfl)))), rfl⟩
theorem tw_3_114 : Cond.code yX6_fails cX6_fails 3 (some .int) ∈ g_T := List.mem_filter.mpr ⟨List.mem_append_right _ (List.mem_append_right _ (List.mem_append_right _ (List.mem_append_left _ (List.mem_of_getElem? (i := 114) rfl)))), rfl⟩
theorem tw_3_42 : Cond.fieldLink RX6 146 "SpreadRulesModel" "tensors" "I" ∈ g_T := List.mem_filter.mpr ⟨List.mem_append_right _ (List.mem_append_right _ (List.mem_append_right _ (List.mem_append_left _ (List.mem_of_getElem? (i := 42) rfl)))), rfl⟩
theorem tw_3_100 : Cond.methodLink RX6 149 yX6_in ∈ g_T := List.mem_filter.mpr ⟨List.mem_append_right _ (List.mem_append_right _ (List.mem_append_right _ (List.mem_append_left _ (List.mem_of_getElem? (i := 100) rfl)))), rfl⟩
theorem tw_3_101 : Cond.static yX6_in ∈ g_T := List.mem_filter.mpr ⟨List.mem_append_right _ (List.mem_append_right _ (List.mem_append_right _ (List.mem_append_left _ (List.mem_of_getElem? (i := 101) rfl)))), rfl⟩
theorem tw_3_122 : Cond.code yX6_isTensor cX6_isTensor 2 (some .boolean) ∈ g_T := List.mem_filter.mpr ⟨List.mem_append_right _ (List.mem_append_right _ (List.mem_append_right _ (List.mem_append_left _ (List.mem_of_getElem? (i := 122) rfl)))), rfl⟩
theorem tw_3_182 : Cond.code yX6_extent cX6_extent 3 (some .int) ∈ g_T := List.mem_filter.mpr ⟨List.mem_append_right _ (List.mem_append_right _ (List.mem_append_right _ (List.mem_append_left _ (List.mem_of_getElem? (i := 182) rfl)))), rfl⟩
theorem tw_3_55 : Cond.fieldLink RX6 153 "SpreadRulesModel" "spreadDims" "I" ∈ g_T := List.mem_filter.mpr ⟨List.mem_append_right _ (List.mem_append_right _ (List.mem_append_right _ (List.mem_append_left _ (List.mem_of_getElem? (i := 55) rfl)))), rfl⟩
theorem tw_3_56 : Cond.fieldLink RX6 160 "SpreadRulesModel" "spreadSize" "I" ∈ g_T := List.mem_filter.mpr ⟨List.mem_append_right _ (List.mem_append_right _ (List.mem_append_right _ (List.mem_append_left _ (List.mem_of_getElem? (i := 56) rfl)))), rfl⟩
theorem tw_3_179 : Cond.methodLink RX6 156 yX6_extent ∈ g_T := List.mem_filter.mpr ⟨List.mem_append_right _ (List.mem_append_right _ (List.mem_append_right _ (List.mem_append_left _ (List.mem_of_getElem? (i := 179) rfl)))), rfl⟩
theorem tw_3_181 : Cond.instanceMethod yX6_extent ∈ g_T := List.mem_filter.mpr ⟨List.mem_append_right _ (List.mem_append_right _ (List.mem_append_right _ (List.mem_append_left _ (List.mem_of_getElem? (i := 181) rfl)))), rfl⟩
theorem tw_p_26 : Cond.selects RX6 yX6_extent yX6_extent ∈ g_T := List.mem_filter.mpr ⟨List.mem_append_left _ (List.mem_of_getElem? (i := 26) rfl), rfl⟩
theorem tw_3_178 : Cond.code yX6_begin cX6_begin 3 none ∈ g_T := List.mem_filter.mpr ⟨List.mem_append_right _ (List.mem_append_right _ (List.mem_append_right _ (List.mem_append_left _ (List.mem_of_getElem? (i := 178) rfl)))), rfl⟩
theorem tw_3_186 : Cond.code yX6_spreadWith cX6_spreadWith 5 (some .int) ∈ g_T := List.mem_filter.mpr ⟨List.mem_append_right _ (List.mem_append_right _ (List.mem_append_right _ (List.mem_append_left _ (List.mem_of_getElem? (i := 186) rfl)))), rfl⟩
theorem tw_3_194 : Cond.code yX6_at cX6_at 9 (some .long) ∈ g_T := List.mem_filter.mpr ⟨List.mem_append_right _ (List.mem_append_right _ (List.mem_append_right _ (List.mem_append_left _ (List.mem_of_getElem? (i := 194) rfl)))), rfl⟩
theorem tw_3_106 : Cond.code yX6_made cX6_made 4 (some .int) ∈ g_T := List.mem_filter.mpr ⟨List.mem_append_right _ (List.mem_append_right _ (List.mem_append_right _ (List.mem_append_left _ (List.mem_of_getElem? (i := 106) rfl)))), rfl⟩
theorem tw_3_99 : Cond.constantLong RX6 163 (5) ∈ g_T := List.mem_filter.mpr ⟨List.mem_append_right _ (List.mem_append_right _ (List.mem_append_right _ (List.mem_append_left _ (List.mem_of_getElem? (i := 99) rfl)))), rfl⟩
theorem tw_3_103 : Cond.methodLink RX6 165 yX6_made ∈ g_T := List.mem_filter.mpr ⟨List.mem_append_right _ (List.mem_append_right _ (List.mem_append_right _ (List.mem_append_left _ (List.mem_of_getElem? (i := 103) rfl)))), rfl⟩
theorem tw_3_105 : Cond.instanceMethod yX6_made ∈ g_T := List.mem_filter.mpr ⟨List.mem_append_right _ (List.mem_append_right _ (List.mem_append_right _ (List.mem_append_left _ (List.mem_of_getElem? (i := 105) rfl)))), rfl⟩
theorem tw_p_20 : Cond.selects RX6 yX6_made yX6_made ∈ g_T := List.mem_filter.mpr ⟨List.mem_append_left _ (List.mem_of_getElem? (i := 20) rfl), rfl⟩
theorem tw_3_98 : Cond.code yX6_tensor cX6_tensor 2 (some .int) ∈ g_T := List.mem_filter.mpr ⟨List.mem_append_right _ (List.mem_append_right _ (List.mem_append_right _ (List.mem_append_left _ (List.mem_of_getElem? (i := 98) rfl)))), rfl⟩
theorem tw_3_111 : Cond.methodLink RX6 168 yX6_fails ∈ g_T := List.mem_filter.mpr ⟨List.mem_append_right _ (List.mem_append_right _ (List.mem_append_right _ (List.mem_append_left _ (List.mem_of_getElem? (i := 111) rfl)))), rfl⟩
theorem tw_3_113 : Cond.instanceMethod yX6_fails ∈ g_T := List.mem_filter.mpr ⟨List.mem_append_right _ (List.mem_append_right _ (List.mem_append_right _ (List.mem_append_left _ (List.mem_of_getElem? (i := 113) rfl)))), rfl⟩
theorem tw_p_21 : Cond.selects RX6 yX6_fails yX6_fails ∈ g_T := List.mem_filter.mpr ⟨List.mem_append_left _ (List.mem_of_getElem? (i := 21) rfl), rfl⟩
theorem tw_3_110 : Cond.code yX6_shaped cX6_shaped 8 (some .int) ∈ g_T := List.mem_filter.mpr ⟨List.mem_append_right _ (List.mem_append_right _ (List.mem_append_right _ (List.mem_append_left _ (List.mem_of_getElem? (i := 110) rfl)))), rfl⟩
theorem tw_3_119 : Cond.methodLink RX6 171 yX6_isTensor ∈ g_T := List.mem_filter.mpr ⟨List.mem_append_right _ (List.mem_append_right _ (List.mem_append_right _ (List.mem_append_left _ (List.mem_of_getElem? (i := 119) rfl)))), rfl⟩
theorem tw_3_121 : Cond.instanceMethod yX6_isTensor ∈ g_T := List.mem_filter.mpr ⟨List.mem_append_right _ (List.mem_append_right _ (List.mem_append_right _ (List.mem_append_left _ (List.mem_of_getElem? (i := 121) rfl)))), rfl⟩
theorem tw_p_22 : Cond.selects RX6 yX6_isTensor yX6_isTensor ∈ g_T := List.mem_filter.mpr ⟨List.mem_append_left _ (List.mem_of_getElem? (i := 22) rfl), rfl⟩
theorem tw_3_118 : Cond.code yX6_free cX6_free 2 (some .int) ∈ g_T := List.mem_filter.mpr ⟨List.mem_append_right _ (List.mem_append_right _ (List.mem_append_right _ (List.mem_append_left _ (List.mem_of_getElem? (i := 118) rfl)))), rfl⟩
theorem tw_3_50 : Cond.fieldLink RX6 175 "SpreadRulesModel" "setting" "I" ∈ g_T := List.mem_filter.mpr ⟨List.mem_append_right _ (List.mem_append_right _ (List.mem_append_right _ (List.mem_append_left _ (List.mem_of_getElem? (i := 50) rfl)))), rfl⟩
theorem tw_3_126 : Cond.code yX6_setting cX6_setting 3 (some .int) ∈ g_T := List.mem_filter.mpr ⟨List.mem_append_right _ (List.mem_append_right _ (List.mem_append_right _ (List.mem_append_left _ (List.mem_of_getElem? (i := 126) rfl)))), rfl⟩
theorem tw_3_130 : Cond.code yX6_item cX6_item 5 (some .int) ∈ g_T := List.mem_filter.mpr ⟨List.mem_append_right _ (List.mem_append_right _ (List.mem_append_right _ (List.mem_append_left _ (List.mem_of_getElem? (i := 130) rfl)))), rfl⟩
theorem tw_3_146 : Cond.code yX6_bits cX6_bits 4 (some .long) ∈ g_T := List.mem_filter.mpr ⟨List.mem_append_right _ (List.mem_append_right _ (List.mem_append_right _ (List.mem_append_left _ (List.mem_of_getElem? (i := 146) rfl)))), rfl⟩
theorem tw_3_151 : Cond.code yX6_index cX6_index 9 (some .int) ∈ g_T := List.mem_filter.mpr ⟨List.mem_append_right _ (List.mem_append_right _ (List.mem_append_right _ (List.mem_append_left _ (List.mem_of_getElem? (i := 151) rfl)))), rfl⟩
theorem tw_3_155 : Cond.code yX6_of cX6_of 3 (some .int) ∈ g_T := List.mem_filter.mpr ⟨List.mem_append_right _ (List.mem_append_right _ (List.mem_append_right _ (List.mem_append_left _ (List.mem_of_getElem? (i := 155) rfl)))), rfl⟩
theorem tw_3_170 : Cond.code yX6_laneOf cX6_laneOf 3 (some .int) ∈ g_T := List.mem_filter.mpr ⟨List.mem_append_right _ (List.mem_append_right _ (List.mem_append_right _ (List.mem_append_left _ (List.mem_of_getElem? (i := 170) rfl)))), rfl⟩
theorem tw_4_20 : Cond.methodLink RX6 202 yX6_rank ∈ g_T := List.mem_filter.mpr ⟨List.mem_append_right _ (List.mem_append_right _ (List.mem_append_right _ (List.mem_append_right _ (List.mem_of_getElem? (i := 20) rfl)))), rfl⟩
theorem tw_4_21 : Cond.static yX6_rank ∈ g_T := List.mem_filter.mpr ⟨List.mem_append_right _ (List.mem_append_right _ (List.mem_append_right _ (List.mem_append_right _ (List.mem_of_getElem? (i := 21) rfl)))), rfl⟩
theorem tw_4_49 : Cond.code yX6_extreme cX6_extreme 6 (some .long) ∈ g_T := List.mem_filter.mpr ⟨List.mem_append_right _ (List.mem_append_right _ (List.mem_append_right _ (List.mem_append_right _ (List.mem_of_getElem? (i := 49) rfl)))), rfl⟩
theorem tw_4_26 : Cond.methodLink RX6 178 yX6_plus ∈ g_T := List.mem_filter.mpr ⟨List.mem_append_right _ (List.mem_append_right _ (List.mem_append_right _ (List.mem_append_right _ (List.mem_of_getElem? (i := 26) rfl)))), rfl⟩
theorem tw_4_27 : Cond.static yX6_plus ∈ g_T := List.mem_filter.mpr ⟨List.mem_append_right _ (List.mem_append_right _ (List.mem_append_right _ (List.mem_append_right _ (List.mem_of_getElem? (i := 27) rfl)))), rfl⟩
theorem tw_4_29 : Cond.methodLink RX6 182 yX6_other ∈ g_T := List.mem_filter.mpr ⟨List.mem_append_right _ (List.mem_append_right _ (List.mem_append_right _ (List.mem_append_right _ (List.mem_of_getElem? (i := 29) rfl)))), rfl⟩
theorem tw_4_30 : Cond.static yX6_other ∈ g_T := List.mem_filter.mpr ⟨List.mem_append_right _ (List.mem_append_right _ (List.mem_append_right _ (List.mem_append_right _ (List.mem_of_getElem? (i := 30) rfl)))), rfl⟩
theorem tw_4_32 : Cond.methodLink RX6 185 yX6_times ∈ g_T := List.mem_filter.mpr ⟨List.mem_append_right _ (List.mem_append_right _ (List.mem_append_right _ (List.mem_append_right _ (List.mem_of_getElem? (i := 32) rfl)))), rfl⟩
theorem tw_4_33 : Cond.static yX6_times ∈ g_T := List.mem_filter.mpr ⟨List.mem_append_right _ (List.mem_append_right _ (List.mem_append_right _ (List.mem_append_right _ (List.mem_of_getElem? (i := 33) rfl)))), rfl⟩
theorem tw_4_37 : Cond.methodLink RX6 188 yX6_over ∈ g_T := List.mem_filter.mpr ⟨List.mem_append_right _ (List.mem_append_right _ (List.mem_append_right _ (List.mem_append_right _ (List.mem_of_getElem? (i := 37) rfl)))), rfl⟩
theorem tw_4_38 : Cond.static yX6_over ∈ g_T := List.mem_filter.mpr ⟨List.mem_append_right _ (List.mem_append_right _ (List.mem_append_right _ (List.mem_append_right _ (List.mem_of_getElem? (i := 38) rfl)))), rfl⟩
theorem tw_4_40 : Cond.methodLink RX6 191 yX6_cut ∈ g_T := List.mem_filter.mpr ⟨List.mem_append_right _ (List.mem_append_right _ (List.mem_append_right _ (List.mem_append_right _ (List.mem_of_getElem? (i := 40) rfl)))), rfl⟩
theorem tw_4_41 : Cond.static yX6_cut ∈ g_T := List.mem_filter.mpr ⟨List.mem_append_right _ (List.mem_append_right _ (List.mem_append_right _ (List.mem_append_right _ (List.mem_of_getElem? (i := 41) rfl)))), rfl⟩
theorem tw_4_43 : Cond.methodLink RX6 194 yX6_left ∈ g_T := List.mem_filter.mpr ⟨List.mem_append_right _ (List.mem_append_right _ (List.mem_append_right _ (List.mem_append_right _ (List.mem_of_getElem? (i := 43) rfl)))), rfl⟩
theorem tw_4_44 : Cond.static yX6_left ∈ g_T := List.mem_filter.mpr ⟨List.mem_append_right _ (List.mem_append_right _ (List.mem_append_right _ (List.mem_append_right _ (List.mem_of_getElem? (i := 44) rfl)))), rfl⟩
theorem tw_4_47 : Cond.methodLink RX6 198 yX6_extreme ∈ g_T := List.mem_filter.mpr ⟨List.mem_append_right _ (List.mem_append_right _ (List.mem_append_right _ (List.mem_append_right _ (List.mem_of_getElem? (i := 47) rfl)))), rfl⟩
theorem tw_4_48 : Cond.static yX6_extreme ∈ g_T := List.mem_filter.mpr ⟨List.mem_append_right _ (List.mem_append_right _ (List.mem_append_right _ (List.mem_append_right _ (List.mem_of_getElem? (i := 48) rfl)))), rfl⟩
theorem tw_4_25 : Cond.code yX6_reckoned cX6_reckoned 8 (some .long) ∈ g_T := List.mem_filter.mpr ⟨List.mem_append_right _ (List.mem_append_right _ (List.mem_append_right _ (List.mem_append_right _ (List.mem_of_getElem? (i := 25) rfl)))), rfl⟩
theorem tw_4_19 : Cond.code yX6_holds cX6_holds 11 (some .boolean) ∈ g_T := List.mem_filter.mpr ⟨List.mem_append_right _ (List.mem_append_right _ (List.mem_append_right _ (List.mem_append_right _ (List.mem_of_getElem? (i := 19) rfl)))), rfl⟩
theorem tw_4_55 : Cond.code yX6_downward cX6_downward 6 (some .long) ∈ g_T := List.mem_filter.mpr ⟨List.mem_append_right _ (List.mem_append_right _ (List.mem_append_right _ (List.mem_append_right _ (List.mem_of_getElem? (i := 55) rfl)))), rfl⟩
theorem tw_4_53 : Cond.methodLink RX6 205 yX6_downward ∈ g_T := List.mem_filter.mpr ⟨List.mem_append_right _ (List.mem_append_right _ (List.mem_append_right _ (List.mem_append_right _ (List.mem_of_getElem? (i := 53) rfl)))), rfl⟩
theorem tw_4_54 : Cond.static yX6_downward ∈ g_T := List.mem_filter.mpr ⟨List.mem_append_right _ (List.mem_append_right _ (List.mem_append_right _ (List.mem_append_right _ (List.mem_of_getElem? (i := 54) rfl)))), rfl⟩
theorem tw_4_56 : Cond.constantLong RX6 208 (4294967295) ∈ g_T := List.mem_filter.mpr ⟨List.mem_append_right _ (List.mem_append_right _ (List.mem_append_right _ (List.mem_append_right _ (List.mem_of_getElem? (i := 56) rfl)))), rfl⟩
theorem tw_4_52 : Cond.code yX6_wholes cX6_wholes 10 (some .long) ∈ g_T := List.mem_filter.mpr ⟨List.mem_append_right _ (List.mem_append_right _ (List.mem_append_right _ (List.mem_append_right _ (List.mem_of_getElem? (i := 52) rfl)))), rfl⟩
theorem tw_3_175 : Cond.methodLink RX6 210 yX6_begin ∈ g_T := List.mem_filter.mpr ⟨List.mem_append_right _ (List.mem_append_right _ (List.mem_append_right _ (List.mem_append_left _ (List.mem_of_getElem? (i := 175) rfl)))), rfl⟩
theorem tw_3_177 : Cond.instanceMethod yX6_begin ∈ g_T := List.mem_filter.mpr ⟨List.mem_append_right _ (List.mem_append_right _ (List.mem_append_right _ (List.mem_append_left _ (List.mem_of_getElem? (i := 177) rfl)))), rfl⟩
theorem tw_p_25 : Cond.selects RX6 yX6_begin yX6_begin ∈ g_T := List.mem_filter.mpr ⟨List.mem_append_left _ (List.mem_of_getElem? (i := 25) rfl), rfl⟩
theorem tw_3_183 : Cond.methodLink RX6 214 yX6_spreadWith ∈ g_T := List.mem_filter.mpr ⟨List.mem_append_right _ (List.mem_append_right _ (List.mem_append_right _ (List.mem_append_left _ (List.mem_of_getElem? (i := 183) rfl)))), rfl⟩
theorem tw_3_185 : Cond.instanceMethod yX6_spreadWith ∈ g_T := List.mem_filter.mpr ⟨List.mem_append_right _ (List.mem_append_right _ (List.mem_append_right _ (List.mem_append_left _ (List.mem_of_getElem? (i := 185) rfl)))), rfl⟩
theorem tw_p_27 : Cond.selects RX6 yX6_spreadWith yX6_spreadWith ∈ g_T := List.mem_filter.mpr ⟨List.mem_append_left _ (List.mem_of_getElem? (i := 27) rfl), rfl⟩
theorem tw_3_174 : Cond.code yX6_spreads cX6_spreads 4 (some .int) ∈ g_T := List.mem_filter.mpr ⟨List.mem_append_right _ (List.mem_append_right _ (List.mem_append_right _ (List.mem_append_left _ (List.mem_of_getElem? (i := 174) rfl)))), rfl⟩
theorem tw_3_165 : Cond.methodLink RX6 217 yX6_joined ∈ g_T := List.mem_filter.mpr ⟨List.mem_append_right _ (List.mem_append_right _ (List.mem_append_right _ (List.mem_append_left _ (List.mem_of_getElem? (i := 165) rfl)))), rfl⟩
theorem tw_3_166 : Cond.static yX6_joined ∈ g_T := List.mem_filter.mpr ⟨List.mem_append_right _ (List.mem_append_right _ (List.mem_append_right _ (List.mem_append_left _ (List.mem_of_getElem? (i := 166) rfl)))), rfl⟩
theorem tw_3_168 : Cond.methodLink RX6 220 yX6_laneOf ∈ g_T := List.mem_filter.mpr ⟨List.mem_append_right _ (List.mem_append_right _ (List.mem_append_right _ (List.mem_append_left _ (List.mem_of_getElem? (i := 168) rfl)))), rfl⟩
theorem tw_3_169 : Cond.static yX6_laneOf ∈ g_T := List.mem_filter.mpr ⟨List.mem_append_right _ (List.mem_append_right _ (List.mem_append_right _ (List.mem_append_left _ (List.mem_of_getElem? (i := 169) rfl)))), rfl⟩
theorem tw_3_57 : Cond.fieldLink RX6 223 "SpreadRulesModel" "actLane" "I" ∈ g_T := List.mem_filter.mpr ⟨List.mem_append_right _ (List.mem_append_right _ (List.mem_append_right _ (List.mem_append_left _ (List.mem_of_getElem? (i := 57) rfl)))), rfl⟩
theorem tw_3_58 : Cond.fieldLink RX6 226 "SpreadRulesModel" "actMissing" "I" ∈ g_T := List.mem_filter.mpr ⟨List.mem_append_right _ (List.mem_append_right _ (List.mem_append_right _ (List.mem_append_left _ (List.mem_of_getElem? (i := 58) rfl)))), rfl⟩
theorem tw_3_51 : Cond.fieldLink RX6 248 "SpreadRulesModel" "missing" "I" ∈ g_T := List.mem_filter.mpr ⟨List.mem_append_right _ (List.mem_append_right _ (List.mem_append_right _ (List.mem_append_left _ (List.mem_of_getElem? (i := 51) rfl)))), rfl⟩
theorem tw_3_191 : Cond.methodLink RX6 229 yX6_at ∈ g_T := List.mem_filter.mpr ⟨List.mem_append_right _ (List.mem_append_right _ (List.mem_append_right _ (List.mem_append_left _ (List.mem_of_getElem? (i := 191) rfl)))), rfl⟩
theorem tw_3_193 : Cond.instanceMethod yX6_at ∈ g_T := List.mem_filter.mpr ⟨List.mem_append_right _ (List.mem_append_right _ (List.mem_append_right _ (List.mem_append_left _ (List.mem_of_getElem? (i := 193) rfl)))), rfl⟩
theorem tw_p_29 : Cond.selects RX6 yX6_at yX6_at ∈ g_T := List.mem_filter.mpr ⟨List.mem_append_left _ (List.mem_of_getElem? (i := 29) rfl), rfl⟩
theorem tw_3_195 : Cond.methodLink RX6 233 yX6_to ∈ g_T := List.mem_filter.mpr ⟨List.mem_append_right _ (List.mem_append_right _ (List.mem_append_right _ (List.mem_append_left _ (List.mem_of_getElem? (i := 195) rfl)))), rfl⟩
theorem tw_3_196 : Cond.static yX6_to ∈ g_T := List.mem_filter.mpr ⟨List.mem_append_right _ (List.mem_append_right _ (List.mem_append_right _ (List.mem_append_left _ (List.mem_of_getElem? (i := 196) rfl)))), rfl⟩
theorem tw_4_17 : Cond.methodLink RX6 237 yX6_holds ∈ g_T := List.mem_filter.mpr ⟨List.mem_append_right _ (List.mem_append_right _ (List.mem_append_right _ (List.mem_append_right _ (List.mem_of_getElem? (i := 17) rfl)))), rfl⟩
theorem tw_4_18 : Cond.static yX6_holds ∈ g_T := List.mem_filter.mpr ⟨List.mem_append_right _ (List.mem_append_right _ (List.mem_append_right _ (List.mem_append_right _ (List.mem_of_getElem? (i := 18) rfl)))), rfl⟩
theorem tw_4_23 : Cond.methodLink RX6 241 yX6_reckoned ∈ g_T := List.mem_filter.mpr ⟨List.mem_append_right _ (List.mem_append_right _ (List.mem_append_right _ (List.mem_append_right _ (List.mem_of_getElem? (i := 23) rfl)))), rfl⟩
theorem tw_4_24 : Cond.static yX6_reckoned ∈ g_T := List.mem_filter.mpr ⟨List.mem_append_right _ (List.mem_append_right _ (List.mem_append_right _ (List.mem_append_right _ (List.mem_of_getElem? (i := 24) rfl)))), rfl⟩
theorem tw_4_50 : Cond.methodLink RX6 245 yX6_wholes ∈ g_T := List.mem_filter.mpr ⟨List.mem_append_right _ (List.mem_append_right _ (List.mem_append_right _ (List.mem_append_right _ (List.mem_of_getElem? (i := 50) rfl)))), rfl⟩
theorem tw_4_51 : Cond.static yX6_wholes ∈ g_T := List.mem_filter.mpr ⟨List.mem_append_right _ (List.mem_append_right _ (List.mem_append_right _ (List.mem_append_right _ (List.mem_of_getElem? (i := 51) rfl)))), rfl⟩
theorem tw_3_190 : Cond.code yX6_acts cX6_acts 11 (some .int) ∈ g_T := List.mem_filter.mpr ⟨List.mem_append_right _ (List.mem_append_right _ (List.mem_append_right _ (List.mem_append_left _ (List.mem_of_getElem? (i := 190) rfl)))), rfl⟩
theorem tw_3_164 : Cond.code yX6_isLane cX6_isLane 4 (some .boolean) ∈ g_T := List.mem_filter.mpr ⟨List.mem_append_right _ (List.mem_append_right _ (List.mem_append_right _ (List.mem_append_left _ (List.mem_of_getElem? (i := 164) rfl)))), rfl⟩
theorem tw_3_160 : Cond.constantLong RX6 251 (22) ∈ g_T := List.mem_filter.mpr ⟨List.mem_append_right _ (List.mem_append_right _ (List.mem_append_right _ (List.mem_append_left _ (List.mem_of_getElem? (i := 160) rfl)))), rfl⟩
theorem tw_3_161 : Cond.methodLink RX6 253 yX6_isLane ∈ g_T := List.mem_filter.mpr ⟨List.mem_append_right _ (List.mem_append_right _ (List.mem_append_right _ (List.mem_append_left _ (List.mem_of_getElem? (i := 161) rfl)))), rfl⟩
theorem tw_3_163 : Cond.instanceMethod yX6_isLane ∈ g_T := List.mem_filter.mpr ⟨List.mem_append_right _ (List.mem_append_right _ (List.mem_append_right _ (List.mem_append_left _ (List.mem_of_getElem? (i := 163) rfl)))), rfl⟩
theorem tw_p_23 : Cond.selects RX6 yX6_isLane yX6_isLane ∈ g_T := List.mem_filter.mpr ⟨List.mem_append_left _ (List.mem_of_getElem? (i := 23) rfl), rfl⟩
theorem tw_3_171 : Cond.methodLink RX6 257 yX6_spreads ∈ g_T := List.mem_filter.mpr ⟨List.mem_append_right _ (List.mem_append_right _ (List.mem_append_right _ (List.mem_append_left _ (List.mem_of_getElem? (i := 171) rfl)))), rfl⟩
theorem tw_3_173 : Cond.instanceMethod yX6_spreads ∈ g_T := List.mem_filter.mpr ⟨List.mem_append_right _ (List.mem_append_right _ (List.mem_append_right _ (List.mem_append_left _ (List.mem_of_getElem? (i := 173) rfl)))), rfl⟩
theorem tw_p_24 : Cond.selects RX6 yX6_spreads yX6_spreads ∈ g_T := List.mem_filter.mpr ⟨List.mem_append_left _ (List.mem_of_getElem? (i := 24) rfl), rfl⟩
theorem tw_3_187 : Cond.methodLink RX6 260 yX6_acts ∈ g_T := List.mem_filter.mpr ⟨List.mem_append_right _ (List.mem_append_right _ (List.mem_append_right _ (List.mem_append_left _ (List.mem_of_getElem? (i := 187) rfl)))), rfl⟩
theorem tw_3_189 : Cond.instanceMethod yX6_acts ∈ g_T := List.mem_filter.mpr ⟨List.mem_append_right _ (List.mem_append_right _ (List.mem_append_right _ (List.mem_append_left _ (List.mem_of_getElem? (i := 189) rfl)))), rfl⟩
theorem tw_p_28 : Cond.selects RX6 yX6_acts yX6_acts ∈ g_T := List.mem_filter.mpr ⟨List.mem_append_left _ (List.mem_of_getElem? (i := 28) rfl), rfl⟩
theorem tw_3_159 : Cond.code yX6_act cX6_act 5 (some .int) ∈ g_T := List.mem_filter.mpr ⟨List.mem_append_right _ (List.mem_append_right _ (List.mem_append_right _ (List.mem_append_left _ (List.mem_of_getElem? (i := 159) rfl)))), rfl⟩
theorem tw_4_60 : Cond.code yX6_into cX6_into 11 (some .int) ∈ g_T := List.mem_filter.mpr ⟨List.mem_append_right _ (List.mem_append_right _ (List.mem_append_right _ (List.mem_append_right _ (List.mem_of_getElem? (i := 60) rfl)))), rfl⟩
theorem tw_4_71 : Cond.code yX6_onWhole cX6_onWhole 4 (some .long) ∈ g_T := List.mem_filter.mpr ⟨List.mem_append_right _ (List.mem_append_right _ (List.mem_append_right _ (List.mem_append_right _ (List.mem_of_getElem? (i := 71) rfl)))), rfl⟩
theorem tw_4_68 : Cond.code yX6_onReal cX6_onReal 3 (some .long) ∈ g_T := List.mem_filter.mpr ⟨List.mem_append_right _ (List.mem_append_right _ (List.mem_append_right _ (List.mem_append_right _ (List.mem_of_getElem? (i := 68) rfl)))), rfl⟩
theorem tw_4_65 : Cond.constantLong RX6 264 (8) ∈ g_T := List.mem_filter.mpr ⟨List.mem_append_right _ (List.mem_append_right _ (List.mem_append_right _ (List.mem_append_right _ (List.mem_of_getElem? (i := 65) rfl)))), rfl⟩
theorem tw_4_69 : Cond.methodLink RX6 270 yX6_onWhole ∈ g_T := List.mem_filter.mpr ⟨List.mem_append_right _ (List.mem_append_right _ (List.mem_append_right _ (List.mem_append_right _ (List.mem_of_getElem? (i := 69) rfl)))), rfl⟩
theorem tw_4_70 : Cond.static yX6_onWhole ∈ g_T := List.mem_filter.mpr ⟨List.mem_append_right _ (List.mem_append_right _ (List.mem_append_right _ (List.mem_append_right _ (List.mem_of_getElem? (i := 70) rfl)))), rfl⟩
theorem tw_4_66 : Cond.methodLink RX6 266 yX6_onReal ∈ g_T := List.mem_filter.mpr ⟨List.mem_append_right _ (List.mem_append_right _ (List.mem_append_right _ (List.mem_append_right _ (List.mem_of_getElem? (i := 66) rfl)))), rfl⟩
theorem tw_4_67 : Cond.static yX6_onReal ∈ g_T := List.mem_filter.mpr ⟨List.mem_append_right _ (List.mem_append_right _ (List.mem_append_right _ (List.mem_append_right _ (List.mem_of_getElem? (i := 67) rfl)))), rfl⟩
theorem tw_4_64 : Cond.code yX6_one cX6_one 8 (some .int) ∈ g_T := List.mem_filter.mpr ⟨List.mem_append_right _ (List.mem_append_right _ (List.mem_append_right _ (List.mem_append_right _ (List.mem_of_getElem? (i := 64) rfl)))), rfl⟩
theorem tw_4_75 : Cond.code yX6_cast cX6_cast 4 (some .int) ∈ g_T := List.mem_filter.mpr ⟨List.mem_append_right _ (List.mem_append_right _ (List.mem_append_right _ (List.mem_append_right _ (List.mem_of_getElem? (i := 75) rfl)))), rfl⟩
theorem tw_4_79 : Cond.code yX6_where cX6_where 7 (some .int) ∈ g_T := List.mem_filter.mpr ⟨List.mem_append_right _ (List.mem_append_right _ (List.mem_append_right _ (List.mem_append_right _ (List.mem_of_getElem? (i := 79) rfl)))), rfl⟩
theorem tw_4_83 : Cond.code yX6_copy cX6_copy 7 (some .int) ∈ g_T := List.mem_filter.mpr ⟨List.mem_append_right _ (List.mem_append_right _ (List.mem_append_right _ (List.mem_append_right _ (List.mem_of_getElem? (i := 83) rfl)))), rfl⟩
theorem tw_4_87 : Cond.code yX6_same cX6_same 5 (some .int) ∈ g_T := List.mem_filter.mpr ⟨List.mem_append_right _ (List.mem_append_right _ (List.mem_append_right _ (List.mem_append_right _ (List.mem_of_getElem? (i := 87) rfl)))), rfl⟩
theorem tw_4_91 : Cond.code yX6_place cX6_place 1 (some .int) ∈ g_T := List.mem_filter.mpr ⟨List.mem_append_right _ (List.mem_append_right _ (List.mem_append_right _ (List.mem_append_right _ (List.mem_of_getElem? (i := 91) rfl)))), rfl⟩
theorem tw_4_95 : Cond.code yX6_count cX6_count 4 (some .int) ∈ g_T := List.mem_filter.mpr ⟨List.mem_append_right _ (List.mem_append_right _ (List.mem_append_right _ (List.mem_append_right _ (List.mem_of_getElem? (i := 95) rfl)))), rfl⟩
theorem tw_1_50 : Cond.laysFinal RX0 "SpreadRules$Arithmetic" "left" "LSpreadRules$Real;" ∈ g_T := List.mem_filter.mpr ⟨List.mem_append_right _ (List.mem_append_left _ (List.mem_of_getElem? (i := 50) rfl)), rfl⟩
theorem tw_1_52 : Cond.laysFinal RX0 "SpreadRules$Arithmetic" "right" "LSpreadRules$Real;" ∈ g_T := List.mem_filter.mpr ⟨List.mem_append_right _ (List.mem_append_left _ (List.mem_of_getElem? (i := 52) rfl)), rfl⟩
theorem tw_1_54 : Cond.laysFinal RX0 "SpreadRules$Arithmetic" "result" "LSpreadRules$Real;" ∈ g_T := List.mem_filter.mpr ⟨List.mem_append_right _ (List.mem_append_left _ (List.mem_of_getElem? (i := 54) rfl)), rfl⟩
theorem tw_1_38 : Cond.lays RX2 "SpreadRules$Real" "kind" "I" ∈ g_T := List.mem_filter.mpr ⟨List.mem_append_right _ (List.mem_append_left _ (List.mem_of_getElem? (i := 38) rfl)), rfl⟩
theorem tw_1_40 : Cond.lays RX2 "SpreadRules$Real" "negative" "Z" ∈ g_T := List.mem_filter.mpr ⟨List.mem_append_right _ (List.mem_append_left _ (List.mem_of_getElem? (i := 40) rfl)), rfl⟩
theorem tw_1_42 : Cond.lays RX2 "SpreadRules$Real" "significand" "J" ∈ g_T := List.mem_filter.mpr ⟨List.mem_append_right _ (List.mem_append_left _ (List.mem_of_getElem? (i := 42) rfl)), rfl⟩
theorem tw_1_44 : Cond.lays RX2 "SpreadRules$Real" "exponent" "I" ∈ g_T := List.mem_filter.mpr ⟨List.mem_append_right _ (List.mem_append_left _ (List.mem_of_getElem? (i := 44) rfl)), rfl⟩
theorem tw_1_66 : Cond.lays RX3 "SpreadRules$Shape" "rank" "I" ∈ g_T := List.mem_filter.mpr ⟨List.mem_append_right _ (List.mem_append_left _ (List.mem_of_getElem? (i := 66) rfl)), rfl⟩
theorem tw_1_68 : Cond.laysFinal RX3 "SpreadRules$Shape" "fromLast" "[I" ∈ g_T := List.mem_filter.mpr ⟨List.mem_append_right _ (List.mem_append_left _ (List.mem_of_getElem? (i := 68) rfl)), rfl⟩
theorem tw_1_151 : Cond.laysFinal RX4 "SpreadRules$Tensor" "lane" "I" ∈ g_T := List.mem_filter.mpr ⟨List.mem_append_right _ (List.mem_append_left _ (List.mem_of_getElem? (i := 151) rfl)), rfl⟩
theorem tw_1_153 : Cond.laysFinal RX4 "SpreadRules$Tensor" "shape" "LSpreadRules$Shape;" ∈ g_T := List.mem_filter.mpr ⟨List.mem_append_right _ (List.mem_append_left _ (List.mem_of_getElem? (i := 153) rfl)), rfl⟩
theorem tw_1_155 : Cond.laysFinal RX4 "SpreadRules$Tensor" "items" "[J" ∈ g_T := List.mem_filter.mpr ⟨List.mem_append_right _ (List.mem_append_left _ (List.mem_of_getElem? (i := 155) rfl)), rfl⟩
theorem tw_1_157 : Cond.lays RX4 "SpreadRules$Tensor" "gone" "Z" ∈ g_T := List.mem_filter.mpr ⟨List.mem_append_right _ (List.mem_append_left _ (List.mem_of_getElem? (i := 157) rfl)), rfl⟩
theorem tw_1_81 : Cond.laysFinal RX5 "SpreadRules" "tensors" "[LSpreadRules$Tensor;" ∈ g_T := List.mem_filter.mpr ⟨List.mem_append_right _ (List.mem_append_left _ (List.mem_of_getElem? (i := 81) rfl)), rfl⟩
theorem tw_1_83 : Cond.laysFinal RX5 "SpreadRules" "arithmetic" "LSpreadRules$Arithmetic;" ∈ g_T := List.mem_filter.mpr ⟨List.mem_append_right _ (List.mem_append_left _ (List.mem_of_getElem? (i := 83) rfl)), rfl⟩
theorem tw_1_85 : Cond.laysFinal RX5 "SpreadRules" "spread" "LSpreadRules$Shape;" ∈ g_T := List.mem_filter.mpr ⟨List.mem_append_right _ (List.mem_append_left _ (List.mem_of_getElem? (i := 85) rfl)), rfl⟩
theorem tw_1_87 : Cond.laysFinal RX5 "SpreadRules" "row" "[J" ∈ g_T := List.mem_filter.mpr ⟨List.mem_append_right _ (List.mem_append_left _ (List.mem_of_getElem? (i := 87) rfl)), rfl⟩
theorem tw_1_89 : Cond.lays RX5 "SpreadRules" "made" "I" ∈ g_T := List.mem_filter.mpr ⟨List.mem_append_right _ (List.mem_append_left _ (List.mem_of_getElem? (i := 89) rfl)), rfl⟩
theorem tw_1_91 : Cond.lays RX5 "SpreadRules" "settingNow" "I" ∈ g_T := List.mem_filter.mpr ⟨List.mem_append_right _ (List.mem_append_left _ (List.mem_of_getElem? (i := 91) rfl)), rfl⟩
theorem tw_1_93 : Cond.lays RX5 "SpreadRules" "missing" "I" ∈ g_T := List.mem_filter.mpr ⟨List.mem_append_right _ (List.mem_append_left _ (List.mem_of_getElem? (i := 93) rfl)), rfl⟩
theorem tw_1_95 : Cond.lays RX5 "SpreadRules" "failures" "I" ∈ g_T := List.mem_filter.mpr ⟨List.mem_append_right _ (List.mem_append_left _ (List.mem_of_getElem? (i := 95) rfl)), rfl⟩
theorem tw_1_97 : Cond.lays RX5 "SpreadRules" "latestPlace" "I" ∈ g_T := List.mem_filter.mpr ⟨List.mem_append_right _ (List.mem_append_left _ (List.mem_of_getElem? (i := 97) rfl)), rfl⟩
theorem tw_3_59 : Cond.lays RX6 "SpreadRulesModel" "tensors" "I" ∈ g_T := List.mem_filter.mpr ⟨List.mem_append_right _ (List.mem_append_right _ (List.mem_append_right _ (List.mem_append_left _ (List.mem_of_getElem? (i := 59) rfl)))), rfl⟩
theorem tw_3_61 : Cond.laysFinal RX6 "SpreadRulesModel" "lanes" "[I" ∈ g_T := List.mem_filter.mpr ⟨List.mem_append_right _ (List.mem_append_right _ (List.mem_append_right _ (List.mem_append_left _ (List.mem_of_getElem? (i := 61) rfl)))), rfl⟩
theorem tw_3_63 : Cond.laysFinal RX6 "SpreadRulesModel" "dims" "[I" ∈ g_T := List.mem_filter.mpr ⟨List.mem_append_right _ (List.mem_append_right _ (List.mem_append_right _ (List.mem_append_left _ (List.mem_of_getElem? (i := 63) rfl)))), rfl⟩
theorem tw_3_65 : Cond.laysFinal RX6 "SpreadRulesModel" "extents" "[I" ∈ g_T := List.mem_filter.mpr ⟨List.mem_append_right _ (List.mem_append_right _ (List.mem_append_right _ (List.mem_append_left _ (List.mem_of_getElem? (i := 65) rfl)))), rfl⟩
theorem tw_3_67 : Cond.laysFinal RX6 "SpreadRulesModel" "sizes" "[I" ∈ g_T := List.mem_filter.mpr ⟨List.mem_append_right _ (List.mem_append_right _ (List.mem_append_right _ (List.mem_append_left _ (List.mem_of_getElem? (i := 67) rfl)))), rfl⟩
theorem tw_3_69 : Cond.laysFinal RX6 "SpreadRulesModel" "gone" "[Z" ∈ g_T := List.mem_filter.mpr ⟨List.mem_append_right _ (List.mem_append_right _ (List.mem_append_right _ (List.mem_append_left _ (List.mem_of_getElem? (i := 69) rfl)))), rfl⟩
theorem tw_3_71 : Cond.laysFinal RX6 "SpreadRulesModel" "items" "[J" ∈ g_T := List.mem_filter.mpr ⟨List.mem_append_right _ (List.mem_append_right _ (List.mem_append_right _ (List.mem_append_left _ (List.mem_of_getElem? (i := 71) rfl)))), rfl⟩
theorem tw_3_73 : Cond.laysFinal RX6 "SpreadRulesModel" "aside" "[J" ∈ g_T := List.mem_filter.mpr ⟨List.mem_append_right _ (List.mem_append_right _ (List.mem_append_right _ (List.mem_append_left _ (List.mem_of_getElem? (i := 73) rfl)))), rfl⟩
theorem tw_3_75 : Cond.lays RX6 "SpreadRulesModel" "setting" "I" ∈ g_T := List.mem_filter.mpr ⟨List.mem_append_right _ (List.mem_append_right _ (List.mem_append_right _ (List.mem_append_left _ (List.mem_of_getElem? (i := 75) rfl)))), rfl⟩
theorem tw_3_77 : Cond.lays RX6 "SpreadRulesModel" "missing" "I" ∈ g_T := List.mem_filter.mpr ⟨List.mem_append_right _ (List.mem_append_right _ (List.mem_append_right _ (List.mem_append_left _ (List.mem_of_getElem? (i := 77) rfl)))), rfl⟩
theorem tw_3_79 : Cond.lays RX6 "SpreadRulesModel" "failures" "I" ∈ g_T := List.mem_filter.mpr ⟨List.mem_append_right _ (List.mem_append_right _ (List.mem_append_right _ (List.mem_append_left _ (List.mem_of_getElem? (i := 79) rfl)))), rfl⟩
theorem tw_3_81 : Cond.lays RX6 "SpreadRulesModel" "place" "I" ∈ g_T := List.mem_filter.mpr ⟨List.mem_append_right _ (List.mem_append_right _ (List.mem_append_right _ (List.mem_append_left _ (List.mem_of_getElem? (i := 81) rfl)))), rfl⟩
theorem tw_3_83 : Cond.laysFinal RX6 "SpreadRulesModel" "spread" "[I" ∈ g_T := List.mem_filter.mpr ⟨List.mem_append_right _ (List.mem_append_right _ (List.mem_append_right _ (List.mem_append_left _ (List.mem_of_getElem? (i := 83) rfl)))), rfl⟩
theorem tw_3_85 : Cond.lays RX6 "SpreadRulesModel" "spreadDims" "I" ∈ g_T := List.mem_filter.mpr ⟨List.mem_append_right _ (List.mem_append_right _ (List.mem_append_right _ (List.mem_append_left _ (List.mem_of_getElem? (i := 85) rfl)))), rfl⟩
theorem tw_3_87 : Cond.lays RX6 "SpreadRulesModel" "spreadSize" "I" ∈ g_T := List.mem_filter.mpr ⟨List.mem_append_right _ (List.mem_append_right _ (List.mem_append_right _ (List.mem_append_left _ (List.mem_of_getElem? (i := 87) rfl)))), rfl⟩
theorem tw_3_89 : Cond.lays RX6 "SpreadRulesModel" "actLane" "I" ∈ g_T := List.mem_filter.mpr ⟨List.mem_append_right _ (List.mem_append_right _ (List.mem_append_right _ (List.mem_append_left _ (List.mem_of_getElem? (i := 89) rfl)))), rfl⟩
theorem tw_3_91 : Cond.lays RX6 "SpreadRulesModel" "actMissing" "I" ∈ g_T := List.mem_filter.mpr ⟨List.mem_append_right _ (List.mem_append_right _ (List.mem_append_right _ (List.mem_append_left _ (List.mem_of_getElem? (i := 91) rfl)))), rfl⟩
theorem gu_X0 : ∀ w ∈ u_ws RX0 TX0 3, w ∈ g_T := by
  intro w hw
  obtain ⟨k, hk, rfl⟩ := List.mem_map.mp hw
  have hk := List.mem_range.mp hk
  match k, hk with
  | 0, _ => exact tw_1_50
  | 1, _ => exact tw_1_52
  | 2, _ => exact tw_1_54
  | k + 3, h => exact absurd h (by omega)

theorem gu_X2 : ∀ w ∈ u_ws RX2 TX2 4, w ∈ g_T := by
  intro w hw
  obtain ⟨k, hk, rfl⟩ := List.mem_map.mp hw
  have hk := List.mem_range.mp hk
  match k, hk with
  | 0, _ => exact tw_1_38
  | 1, _ => exact tw_1_40
  | 2, _ => exact tw_1_42
  | 3, _ => exact tw_1_44
  | k + 4, h => exact absurd h (by omega)

theorem gu_X3 : ∀ w ∈ u_ws RX3 TX3 2, w ∈ g_T := by
  intro w hw
  obtain ⟨k, hk, rfl⟩ := List.mem_map.mp hw
  have hk := List.mem_range.mp hk
  match k, hk with
  | 0, _ => exact tw_1_66
  | 1, _ => exact tw_1_68
  | k + 2, h => exact absurd h (by omega)

theorem gu_X4 : ∀ w ∈ u_ws RX4 TX4 4, w ∈ g_T := by
  intro w hw
  obtain ⟨k, hk, rfl⟩ := List.mem_map.mp hw
  have hk := List.mem_range.mp hk
  match k, hk with
  | 0, _ => exact tw_1_151
  | 1, _ => exact tw_1_153
  | 2, _ => exact tw_1_155
  | 3, _ => exact tw_1_157
  | k + 4, h => exact absurd h (by omega)

theorem gu_X5 : ∀ w ∈ u_ws RX5 TX5 9, w ∈ g_T := by
  intro w hw
  obtain ⟨k, hk, rfl⟩ := List.mem_map.mp hw
  have hk := List.mem_range.mp hk
  match k, hk with
  | 0, _ => exact tw_1_81
  | 1, _ => exact tw_1_83
  | 2, _ => exact tw_1_85
  | 3, _ => exact tw_1_87
  | 4, _ => exact tw_1_89
  | 5, _ => exact tw_1_91
  | 6, _ => exact tw_1_93
  | 7, _ => exact tw_1_95
  | 8, _ => exact tw_1_97
  | k + 9, h => exact absurd h (by omega)

theorem gu_X6 : ∀ w ∈ u_ws RX6 TX6 17, w ∈ g_T := by
  intro w hw
  obtain ⟨k, hk, rfl⟩ := List.mem_map.mp hw
  have hk := List.mem_range.mp hk
  match k, hk with
  | 0, _ => exact tw_3_59
  | 1, _ => exact tw_3_61
  | 2, _ => exact tw_3_63
  | 3, _ => exact tw_3_65
  | 4, _ => exact tw_3_67
  | 5, _ => exact tw_3_69
  | 6, _ => exact tw_3_71
  | 7, _ => exact tw_3_73
  | 8, _ => exact tw_3_75
  | 9, _ => exact tw_3_77
  | 10, _ => exact tw_3_79
  | 11, _ => exact tw_3_81
  | 12, _ => exact tw_3_83
  | 13, _ => exact tw_3_85
  | 14, _ => exact tw_3_87
  | 15, _ => exact tw_3_89
  | 16, _ => exact tw_3_91
  | k + 17, h => exact absurd h (by omega)
