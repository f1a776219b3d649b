/-! the words that rows use, by their places in the tables; the methods by number: name, words, room -/
abbrev cJA_fill : ByteArray := prog_18_method_103_code
def yJA_fill : MethodName := ⟨"java/util/Arrays", "fill", "([II)V"⟩
theorem dJA_fill_0 : decode cJA_fill 0 = .ok (.iconst 0, 1) := by decide +kernel
theorem dJA_fill_1 : decode cJA_fill 1 = .ok (.istore_n 2, 1) := by decide +kernel
theorem dJA_fill_2 : decode cJA_fill 2 = .ok (.aload_n 0, 1) := by decide +kernel
theorem dJA_fill_3 : decode cJA_fill 3 = .ok (.arraylength, 1) := by decide +kernel
theorem dJA_fill_4 : decode cJA_fill 4 = .ok (.istore_n 3, 1) := by decide +kernel
theorem dJA_fill_5 : decode cJA_fill 5 = .ok (.iload_n 2, 1) := by decide +kernel
theorem dJA_fill_6 : decode cJA_fill 6 = .ok (.iload_n 3, 1) := by decide +kernel
theorem dJA_fill_7 : decode cJA_fill 7 = .ok (.if_icmp .ge 13, 3) := by decide +kernel
theorem dJA_fill_10 : decode cJA_fill 10 = .ok (.aload_n 0, 1) := by decide +kernel
theorem dJA_fill_11 : decode cJA_fill 11 = .ok (.iload_n 2, 1) := by decide +kernel
theorem dJA_fill_12 : decode cJA_fill 12 = .ok (.iload_n 1, 1) := by decide +kernel
theorem dJA_fill_13 : decode cJA_fill 13 = .ok (.iastore, 1) := by decide +kernel
theorem dJA_fill_14 : decode cJA_fill 14 = .ok (.iinc 2 1, 3) := by decide +kernel
theorem dJA_fill_17 : decode cJA_fill 17 = .ok (.goto (-12), 3) := by decide +kernel
theorem dJA_fill_20 : decode cJA_fill 20 = .ok (.return_, 1) := by decide +kernel
theorem wm_0 : Cond.methodLink RX0 3 Lib.objectInit ∈ lw_all := lw_in (i := 84) (by decide +kernel) rfl
theorem wm_1 : Cond.instanceMethod Lib.objectInit ∈ lw_all := lw_in (i := 71) (by decide +kernel) rfl
theorem wm_2 : Cond.code Lib.objectInit ⟨#[0xb1]⟩ 1 none ∈ lw_all := lw_in (i := 72) (by decide +kernel) rfl
theorem wm_3 : Cond.fieldLink RX0 9 "DraftMerge$Blocks" "count" "I" ∈ lw_all := lw_in (i := 87) (by decide +kernel) rfl
theorem wm_4 : Cond.fieldLink RX0 15 "DraftMerge$Blocks" "numbers" "[I" ∈ lw_all := lw_in (i := 85) (by decide +kernel) rfl
theorem wm_5 : Cond.fieldLink RX0 19 "DraftMerge$Blocks" "contents" "[I" ∈ lw_all := lw_in (i := 86) (by decide +kernel) rfl
theorem wm_6 : Cond.methodLink RX0 22 yX0_holds ∈ lw_all := lw_in (i := 277) (by decide +kernel) rfl
theorem wm_7 : Cond.instanceMethod yX0_holds ∈ lw_all := lw_in (i := 278) (by decide +kernel) rfl
theorem wm_8 : Cond.selects RX0 yX0_holds yX0_holds ∈ lw_all := lw_in (i := 279) (by decide +kernel) rfl
theorem wm_9 : Cond.static yX6_cell ∈ lw_all := lw_in (i := 282) (by decide +kernel) rfl
theorem wm_10 : Cond.methodLink RX0 30 yX0_numberAt ∈ lw_all := lw_in (i := 273) (by decide +kernel) rfl
theorem wm_11 : Cond.instanceMethod yX0_numberAt ∈ lw_all := lw_in (i := 274) (by decide +kernel) rfl
theorem wm_12 : Cond.selects RX0 yX0_numberAt yX0_numberAt ∈ lw_all := lw_in (i := 275) (by decide +kernel) rfl
theorem wm_13 : Cond.methodLink RX0 34 yX0_find ∈ lw_all := lw_in (i := 365) (by decide +kernel) rfl
theorem wm_14 : Cond.instanceMethod yX0_find ∈ lw_all := lw_in (i := 270) (by decide +kernel) rfl
theorem wm_15 : Cond.selects RX0 yX0_find yX0_find ∈ lw_all := lw_in (i := 271) (by decide +kernel) rfl
theorem wm_16 : Cond.methodLink RX0 37 yX0_contentAt ∈ lw_all := lw_in (i := 366) (by decide +kernel) rfl
theorem wm_17 : Cond.instanceMethod yX0_contentAt ∈ lw_all := lw_in (i := 285) (by decide +kernel) rfl
theorem wm_18 : Cond.selects RX0 yX0_contentAt yX0_contentAt ∈ lw_all := lw_in (i := 286) (by decide +kernel) rfl
theorem wm_19 : Cond.static yX6_setCell ∈ lw_all := lw_in (i := 289) (by decide +kernel) rfl
theorem wm_20 : Cond.methodLink RX0 44 yX0_isFull ∈ lw_all := lw_in (i := 393) (by decide +kernel) rfl
theorem wm_21 : Cond.instanceMethod yX0_isFull ∈ lw_all := lw_in (i := 394) (by decide +kernel) rfl
theorem wm_22 : Cond.selects RX0 yX0_isFull yX0_isFull ∈ lw_all := lw_in (i := 395) (by decide +kernel) rfl
theorem wm_23 : Cond.methodLink RX0 48 yX0_putIn ∈ lw_all := lw_in (i := 389) (by decide +kernel) rfl
theorem wm_24 : Cond.instanceMethod yX0_putIn ∈ lw_all := lw_in (i := 390) (by decide +kernel) rfl
theorem wm_25 : Cond.selects RX0 yX0_putIn yX0_putIn ∈ lw_all := lw_in (i := 391) (by decide +kernel) rfl
theorem wm_26 : Cond.methodLink RX0 52 yX0_takeOut ∈ lw_all := lw_in (i := 699) (by decide +kernel) rfl
theorem wm_27 : Cond.instanceMethod yX0_takeOut ∈ lw_all := lw_in (i := 700) (by decide +kernel) rfl
theorem wm_28 : Cond.selects RX0 yX0_takeOut yX0_takeOut ∈ lw_all := lw_in (i := 701) (by decide +kernel) rfl
theorem wm_29 : Cond.methodLink RX0 55 Lib.Math.min.name ∈ lw_all := lw_in (i := 630) (by decide +kernel) rfl
theorem wm_30 : Cond.static Lib.Math.min.name ∈ lw_all := lw_in (i := 631) (by decide +kernel) rfl
theorem wm_31 : Cond.initialized "java/lang/Math" ∈ lw_all := lw_in (i := 63) (by decide +kernel) rfl
theorem wm_32 : Cond.code Lib.Math.min.name Lib.Math.min.code 2 (some .int) ∈ lw_all := lw_in (i := 632) (by decide +kernel) rfl
theorem wm_33 : Cond.methodLink RX1 3 Lib.objectInit ∈ lw_all := lw_in (i := 209) (by decide +kernel) rfl
theorem wm_34 : Cond.arrayClass .int ∈ lw_all := lw_in (i := 99) (by decide +kernel) rfl
theorem wm_35 : Cond.fieldLink RX1 9 "DraftMerge$CommandText" "codes" "[I" ∈ lw_all := lw_in (i := 210) (by decide +kernel) rfl
theorem wm_36 : Cond.fieldLink RX1 15 "DraftMerge$CommandText" "length" "I" ∈ lw_all := lw_in (i := 211) (by decide +kernel) rfl
theorem wm_37 : Cond.fieldLink RX1 19 "DraftMerge$CommandText" "draft" "I" ∈ lw_all := lw_in (i := 213) (by decide +kernel) rfl
theorem wm_38 : Cond.fieldLink RX1 22 "DraftMerge$CommandText" "kind" "I" ∈ lw_all := lw_in (i := 215) (by decide +kernel) rfl
theorem wm_39 : Cond.fieldLink RX1 25 "DraftMerge$CommandText" "first" "I" ∈ lw_all := lw_in (i := 217) (by decide +kernel) rfl
theorem wm_40 : Cond.fieldLink RX1 28 "DraftMerge$CommandText" "separated" "Z" ∈ lw_all := lw_in (i := 219) (by decide +kernel) rfl
theorem wm_41 : Cond.fieldLink RX1 32 "DraftMerge$CommandText" "second" "I" ∈ lw_all := lw_in (i := 220) (by decide +kernel) rfl
theorem wm_42 : Cond.methodLink RX1 43 yX1_beginReading ∈ lw_all := lw_in (i := 449) (by decide +kernel) rfl
theorem wm_43 : Cond.instanceMethod yX1_beginReading ∈ lw_all := lw_in (i := 450) (by decide +kernel) rfl
theorem wm_44 : Cond.selects RX1 yX1_beginReading yX1_beginReading ∈ lw_all := lw_in (i := 451) (by decide +kernel) rfl
theorem wm_45 : Cond.methodLink RX1 46 yX1_codeAt ∈ lw_all := lw_in (i := 453) (by decide +kernel) rfl
theorem wm_46 : Cond.instanceMethod yX1_codeAt ∈ lw_all := lw_in (i := 454) (by decide +kernel) rfl
theorem wm_47 : Cond.selects RX1 yX1_codeAt yX1_codeAt ∈ lw_all := lw_in (i := 455) (by decide +kernel) rfl
theorem wm_48 : Cond.methodLink RX1 50 yX1_take ∈ lw_all := lw_in (i := 458) (by decide +kernel) rfl
theorem wm_49 : Cond.instanceMethod yX1_take ∈ lw_all := lw_in (i := 459) (by decide +kernel) rfl
theorem wm_50 : Cond.selects RX1 yX1_take yX1_take ∈ lw_all := lw_in (i := 460) (by decide +kernel) rfl
theorem wm_51 : Cond.methodLink RX1 54 yX1_findError ∈ lw_all := lw_in (i := 880) (by decide +kernel) rfl
theorem wm_52 : Cond.instanceMethod yX1_findError ∈ lw_all := lw_in (i := 446) (by decide +kernel) rfl
theorem wm_53 : Cond.selects RX1 yX1_findError yX1_findError ∈ lw_all := lw_in (i := 447) (by decide +kernel) rfl
theorem wm_54 : Cond.methodLink RX1 58 yX1_commandIsWhole ∈ lw_all := lw_in (i := 462) (by decide +kernel) rfl
theorem wm_55 : Cond.instanceMethod yX1_commandIsWhole ∈ lw_all := lw_in (i := 463) (by decide +kernel) rfl
theorem wm_56 : Cond.selects RX1 yX1_commandIsWhole yX1_commandIsWhole ∈ lw_all := lw_in (i := 464) (by decide +kernel) rfl
theorem wm_57 : Cond.methodLink RX1 62 yX1_takeDraft ∈ lw_all := lw_in (i := 466) (by decide +kernel) rfl
theorem wm_58 : Cond.instanceMethod yX1_takeDraft ∈ lw_all := lw_in (i := 467) (by decide +kernel) rfl
theorem wm_59 : Cond.selects RX1 yX1_takeDraft yX1_takeDraft ∈ lw_all := lw_in (i := 468) (by decide +kernel) rfl
theorem wm_60 : Cond.methodLink RX1 65 yX1_takeKind ∈ lw_all := lw_in (i := 470) (by decide +kernel) rfl
theorem wm_61 : Cond.instanceMethod yX1_takeKind ∈ lw_all := lw_in (i := 471) (by decide +kernel) rfl
theorem wm_62 : Cond.selects RX1 yX1_takeKind yX1_takeKind ∈ lw_all := lw_in (i := 472) (by decide +kernel) rfl
theorem wm_63 : Cond.methodLink RX1 68 yX1_takeSecond ∈ lw_all := lw_in (i := 474) (by decide +kernel) rfl
theorem wm_64 : Cond.instanceMethod yX1_takeSecond ∈ lw_all := lw_in (i := 475) (by decide +kernel) rfl
theorem wm_65 : Cond.selects RX1 yX1_takeSecond yX1_takeSecond ∈ lw_all := lw_in (i := 476) (by decide +kernel) rfl
theorem wm_66 : Cond.methodLink RX1 71 yX1_takeFirst ∈ lw_all := lw_in (i := 481) (by decide +kernel) rfl
theorem wm_67 : Cond.instanceMethod yX1_takeFirst ∈ lw_all := lw_in (i := 482) (by decide +kernel) rfl
theorem wm_68 : Cond.selects RX1 yX1_takeFirst yX1_takeFirst ∈ lw_all := lw_in (i := 483) (by decide +kernel) rfl
theorem wm_69 : Cond.methodLink RX1 74 yX1_withDigit ∈ lw_all := lw_in (i := 478) (by decide +kernel) rfl
theorem wm_70 : Cond.static yX1_withDigit ∈ lw_all := lw_in (i := 479) (by decide +kernel) rfl
theorem wm_71 : Cond.methodLink RX2 3 Lib.objectInit ∈ lw_all := lw_in (i := 167) (by decide +kernel) rfl
theorem wm_72 : Cond.fieldLink RX2 9 "DraftMerge$DraftChanges" "changes" "[I" ∈ lw_all := lw_in (i := 168) (by decide +kernel) rfl
theorem wm_73 : Cond.fieldLink RX2 15 "DraftMerge$DraftChanges" "ascending" "[I" ∈ lw_all := lw_in (i := 169) (by decide +kernel) rfl
theorem wm_74 : Cond.methodLink RX2 22 yX2_of ∈ lw_all := lw_in (i := 312) (by decide +kernel) rfl
theorem wm_75 : Cond.instanceMethod yX2_of ∈ lw_all := lw_in (i := 313) (by decide +kernel) rfl
theorem wm_76 : Cond.selects RX2 yX2_of yX2_of ∈ lw_all := lw_in (i := 314) (by decide +kernel) rfl
theorem wm_77 : Cond.methodLink RX2 26 yX2_moved ∈ lw_all := lw_in (i := 776) (by decide +kernel) rfl
theorem wm_78 : Cond.instanceMethod yX2_moved ∈ lw_all := lw_in (i := 368) (by decide +kernel) rfl
theorem wm_79 : Cond.selects RX2 yX2_moved yX2_moved ∈ lw_all := lw_in (i := 369) (by decide +kernel) rfl
theorem wm_80 : Cond.fieldLink RX2 30 "DraftMerge$Blocks" "count" "I" ∈ lw_all := lw_in (i := 89) (by decide +kernel) rfl
theorem wm_81 : Cond.methodLink RX2 36 yX2_changeUnlessKept ∈ lw_all := lw_in (i := 266) (by decide +kernel) rfl
theorem wm_82 : Cond.static yX2_changeUnlessKept ∈ lw_all := lw_in (i := 267) (by decide +kernel) rfl
theorem wm_83 : Cond.methodLink RX2 44 yX2_measureAscending ∈ lw_all := lw_in (i := 291) (by decide +kernel) rfl
theorem wm_84 : Cond.instanceMethod yX2_measureAscending ∈ lw_all := lw_in (i := 292) (by decide +kernel) rfl
theorem wm_85 : Cond.selects RX2 yX2_measureAscending yX2_measureAscending ∈ lw_all := lw_in (i := 293) (by decide +kernel) rfl
theorem wm_86 : Cond.methodLink RX2 48 yX2_markKept ∈ lw_all := lw_in (i := 304) (by decide +kernel) rfl
theorem wm_87 : Cond.instanceMethod yX2_markKept ∈ lw_all := lw_in (i := 305) (by decide +kernel) rfl
theorem wm_88 : Cond.selects RX2 yX2_markKept yX2_markKept ∈ lw_all := lw_in (i := 306) (by decide +kernel) rfl
theorem wm_89 : Cond.methodLink RX2 52 yX0_find ∈ lw_all := lw_in (i := 269) (by decide +kernel) rfl
theorem wm_90 : Cond.methodLink RX2 55 yX0_contentAt ∈ lw_all := lw_in (i := 284) (by decide +kernel) rfl
theorem wm_91 : Cond.methodLink RX2 58 yX2_lengthFrom ∈ lw_all := lw_in (i := 295) (by decide +kernel) rfl
theorem wm_92 : Cond.instanceMethod yX2_lengthFrom ∈ lw_all := lw_in (i := 296) (by decide +kernel) rfl
theorem wm_93 : Cond.selects RX2 yX2_lengthFrom yX2_lengthFrom ∈ lw_all := lw_in (i := 297) (by decide +kernel) rfl
theorem wm_94 : Cond.methodLink RX2 62 Lib.Math.max.name ∈ lw_all := lw_in (i := 301) (by decide +kernel) rfl
theorem wm_95 : Cond.static Lib.Math.max.name ∈ lw_all := lw_in (i := 302) (by decide +kernel) rfl
theorem wm_96 : Cond.code Lib.Math.max.name Lib.Math.max.code 2 (some .int) ∈ lw_all := lw_in (i := 303) (by decide +kernel) rfl
theorem wm_97 : Cond.methodLink RX2 68 yX0_numberAt ∈ lw_all := lw_in (i := 299) (by decide +kernel) rfl
theorem wm_98 : Cond.methodLink RX2 71 yX2_leastStart ∈ lw_all := lw_in (i := 308) (by decide +kernel) rfl
theorem wm_99 : Cond.instanceMethod yX2_leastStart ∈ lw_all := lw_in (i := 309) (by decide +kernel) rfl
theorem wm_100 : Cond.selects RX2 yX2_leastStart yX2_leastStart ∈ lw_all := lw_in (i := 310) (by decide +kernel) rfl
theorem wm_101 : Cond.methodLink RX3 3 Lib.objectInit ∈ lw_all := lw_in (i := 139) (by decide +kernel) rfl
theorem wm_102 : Cond.classLink RX3 9 RX5 ∈ lw_all := lw_in (i := 140) (by decide +kernel) rfl
theorem wm_103 : Cond.fieldLink RX3 11 "DraftMerge$History" "ring" "[LDraftMerge$State;" ∈ lw_all := lw_in (i := 143) (by decide +kernel) rfl
theorem wm_104 : Cond.fieldLink RX3 17 "DraftMerge$History" "next" "I" ∈ lw_all := lw_in (i := 144) (by decide +kernel) rfl
theorem wm_105 : Cond.fieldLink RX3 21 "DraftMerge$History" "count" "I" ∈ lw_all := lw_in (i := 145) (by decide +kernel) rfl
theorem wm_106 : Cond.instantiable RX5 7 ∈ lw_all := lw_in (i := 74) (by decide +kernel) rfl
theorem wm_107 : Cond.initialized RX5 ∈ lw_all := lw_in (i := 50) (by decide +kernel) rfl
theorem wm_108 : Cond.methodLink RX3 24 yX5_init ∈ lw_all := lw_in (i := 142) (by decide +kernel) rfl
theorem wm_109 : Cond.instanceMethod yX5_init ∈ lw_all := lw_in (i := 76) (by decide +kernel) rfl
theorem wm_110 : Cond.methodLink RX3 25 yX3_slot ∈ lw_all := lw_in (i := 615) (by decide +kernel) rfl
theorem wm_111 : Cond.instanceMethod yX3_slot ∈ lw_all := lw_in (i := 616) (by decide +kernel) rfl
theorem wm_112 : Cond.selects RX3 yX3_slot yX3_slot ∈ lw_all := lw_in (i := 617) (by decide +kernel) rfl
theorem wm_113 : Cond.methodLink RX3 29 yX3_copy ∈ lw_all := lw_in (i := 619) (by decide +kernel) rfl
theorem wm_114 : Cond.static yX3_copy ∈ lw_all := lw_in (i := 620) (by decide +kernel) rfl
theorem wm_115 : Cond.methodLink RX3 33 yX5_copyFrom ∈ lw_all := lw_in (i := 622) (by decide +kernel) rfl
theorem wm_116 : Cond.instanceMethod yX5_copyFrom ∈ lw_all := lw_in (i := 623) (by decide +kernel) rfl
theorem wm_117 : Cond.selects RX5 yX5_copyFrom yX5_copyFrom ∈ lw_all := lw_in (i := 624) (by decide +kernel) rfl
theorem wm_118 : Cond.methodLink RX4 3 Lib.objectInit ∈ lw_all := lw_in (i := 159) (by decide +kernel) rfl
theorem wm_119 : Cond.classLink RX4 9 RX0 ∈ lw_all := lw_in (i := 160) (by decide +kernel) rfl
theorem wm_120 : Cond.instantiable RX0 3 ∈ lw_all := lw_in (i := 80) (by decide +kernel) rfl
theorem wm_121 : Cond.initialized RX0 ∈ lw_all := lw_in (i := 51) (by decide +kernel) rfl
theorem wm_122 : Cond.methodLink RX4 11 yX0_init ∈ lw_all := lw_in (i := 161) (by decide +kernel) rfl
theorem wm_123 : Cond.instanceMethod yX0_init ∈ lw_all := lw_in (i := 82) (by decide +kernel) rfl
theorem wm_124 : Cond.fieldLink RX4 14 "DraftMerge$Merge" "merged" "LDraftMerge$Blocks;" ∈ lw_all := lw_in (i := 175) (by decide +kernel) rfl
theorem wm_125 : Cond.classLink RX4 20 RX2 ∈ lw_all := lw_in (i := 162) (by decide +kernel) rfl
theorem wm_126 : Cond.instantiable RX2 2 ∈ lw_all := lw_in (i := 163) (by decide +kernel) rfl
theorem wm_127 : Cond.initialized RX2 ∈ lw_all := lw_in (i := 55) (by decide +kernel) rfl
theorem wm_128 : Cond.instanceMethod yX2_init ∈ lw_all := lw_in (i := 165) (by decide +kernel) rfl
theorem wm_129 : Cond.fieldLink RX4 23 "DraftMerge$Merge" "changes0" "LDraftMerge$DraftChanges;" ∈ lw_all := lw_in (i := 177) (by decide +kernel) rfl
theorem wm_130 : Cond.fieldLink RX4 27 "DraftMerge$Merge" "changes1" "LDraftMerge$DraftChanges;" ∈ lw_all := lw_in (i := 179) (by decide +kernel) rfl
theorem wm_131 : Cond.fieldLink RX4 30 "DraftMerge$Merge" "conflictBlocks" "[I" ∈ lw_all := lw_in (i := 181) (by decide +kernel) rfl
theorem wm_132 : Cond.fieldLink RX4 34 "DraftMerge$Merge" "conflictKinds" "[I" ∈ lw_all := lw_in (i := 182) (by decide +kernel) rfl
theorem wm_133 : Cond.fieldLink RX4 37 "DraftMerge$Merge" "conflictCount" "I" ∈ lw_all := lw_in (i := 183) (by decide +kernel) rfl
theorem wm_134 : Cond.fieldLink RX4 41 "DraftMerge$Merge" "places" "[I" ∈ lw_all := lw_in (i := 185) (by decide +kernel) rfl
theorem wm_135 : Cond.fieldLink RX4 44 "DraftMerge$Merge" "contents" "[I" ∈ lw_all := lw_in (i := 186) (by decide +kernel) rfl
theorem wm_136 : Cond.methodLink RX4 51 yX4_blockOfConflict ∈ lw_all := lw_in (i := 420) (by decide +kernel) rfl
theorem wm_137 : Cond.instanceMethod yX4_blockOfConflict ∈ lw_all := lw_in (i := 421) (by decide +kernel) rfl
theorem wm_138 : Cond.selects RX4 yX4_blockOfConflict yX4_blockOfConflict ∈ lw_all := lw_in (i := 422) (by decide +kernel) rfl
theorem wm_139 : Cond.methodLink RX4 55 yX4_kindOfConflict ∈ lw_all := lw_in (i := 424) (by decide +kernel) rfl
theorem wm_140 : Cond.instanceMethod yX4_kindOfConflict ∈ lw_all := lw_in (i := 425) (by decide +kernel) rfl
theorem wm_141 : Cond.selects RX4 yX4_kindOfConflict yX4_kindOfConflict ∈ lw_all := lw_in (i := 426) (by decide +kernel) rfl
theorem wm_142 : Cond.methodLink RX4 58 yX5_choice ∈ lw_all := lw_in (i := 428) (by decide +kernel) rfl
theorem wm_143 : Cond.instanceMethod yX5_choice ∈ lw_all := lw_in (i := 350) (by decide +kernel) rfl
theorem wm_144 : Cond.selects RX5 yX5_choice yX5_choice ∈ lw_all := lw_in (i := 351) (by decide +kernel) rfl
theorem wm_145 : Cond.fieldLink RX4 64 "DraftMerge$State" "base" "LDraftMerge$Blocks;" ∈ lw_all := lw_in (i := 105) (by decide +kernel) rfl
theorem wm_146 : Cond.fieldLink RX4 67 "DraftMerge$State" "draft0" "LDraftMerge$Blocks;" ∈ lw_all := lw_in (i := 107) (by decide +kernel) rfl
theorem wm_147 : Cond.methodLink RX4 70 yX2_compare ∈ lw_all := lw_in (i := 262) (by decide +kernel) rfl
theorem wm_148 : Cond.instanceMethod yX2_compare ∈ lw_all := lw_in (i := 263) (by decide +kernel) rfl
theorem wm_149 : Cond.selects RX2 yX2_compare yX2_compare ∈ lw_all := lw_in (i := 264) (by decide +kernel) rfl
theorem wm_150 : Cond.fieldLink RX4 74 "DraftMerge$State" "draft1" "LDraftMerge$Blocks;" ∈ lw_all := lw_in (i := 110) (by decide +kernel) rfl
theorem wm_151 : Cond.methodLink RX4 77 yX0_clear ∈ lw_all := lw_in (i := 316) (by decide +kernel) rfl
theorem wm_152 : Cond.instanceMethod yX0_clear ∈ lw_all := lw_in (i := 317) (by decide +kernel) rfl
theorem wm_153 : Cond.selects RX0 yX0_clear yX0_clear ∈ lw_all := lw_in (i := 318) (by decide +kernel) rfl
theorem wm_154 : Cond.fieldLink RX4 80 "DraftMerge$Blocks" "count" "I" ∈ lw_all := lw_in (i := 91) (by decide +kernel) rfl
theorem wm_155 : Cond.methodLink RX4 83 yX4_decide ∈ lw_all := lw_in (i := 320) (by decide +kernel) rfl
theorem wm_156 : Cond.instanceMethod yX4_decide ∈ lw_all := lw_in (i := 321) (by decide +kernel) rfl
theorem wm_157 : Cond.selects RX4 yX4_decide yX4_decide ∈ lw_all := lw_in (i := 322) (by decide +kernel) rfl
theorem wm_158 : Cond.methodLink RX4 87 yX0_putLast ∈ lw_all := lw_in (i := 385) (by decide +kernel) rfl
theorem wm_159 : Cond.instanceMethod yX0_putLast ∈ lw_all := lw_in (i := 386) (by decide +kernel) rfl
theorem wm_160 : Cond.selects RX0 yX0_putLast yX0_putLast ∈ lw_all := lw_in (i := 387) (by decide +kernel) rfl
theorem wm_161 : Cond.methodLink RX4 91 yX4_putBlocksOf ∈ lw_all := lw_in (i := 398) (by decide +kernel) rfl
theorem wm_162 : Cond.instanceMethod yX4_putBlocksOf ∈ lw_all := lw_in (i := 399) (by decide +kernel) rfl
theorem wm_163 : Cond.selects RX4 yX4_putBlocksOf yX4_putBlocksOf ∈ lw_all := lw_in (i := 400) (by decide +kernel) rfl
theorem wm_164 : Cond.methodLink RX4 94 yX2_removes ∈ lw_all := lw_in (i := 324) (by decide +kernel) rfl
theorem wm_165 : Cond.instanceMethod yX2_removes ∈ lw_all := lw_in (i := 325) (by decide +kernel) rfl
theorem wm_166 : Cond.selects RX2 yX2_removes yX2_removes ∈ lw_all := lw_in (i := 326) (by decide +kernel) rfl
theorem wm_167 : Cond.methodLink RX4 102 yX4_decideRemoved ∈ lw_all := lw_in (i := 329) (by decide +kernel) rfl
theorem wm_168 : Cond.instanceMethod yX4_decideRemoved ∈ lw_all := lw_in (i := 330) (by decide +kernel) rfl
theorem wm_169 : Cond.selects RX4 yX4_decideRemoved yX4_decideRemoved ∈ lw_all := lw_in (i := 331) (by decide +kernel) rfl
theorem wm_170 : Cond.methodLink RX4 106 yX4_contentFromBoth ∈ lw_all := lw_in (i := 371) (by decide +kernel) rfl
theorem wm_171 : Cond.instanceMethod yX4_contentFromBoth ∈ lw_all := lw_in (i := 372) (by decide +kernel) rfl
theorem wm_172 : Cond.selects RX4 yX4_contentFromBoth yX4_contentFromBoth ∈ lw_all := lw_in (i := 373) (by decide +kernel) rfl
theorem wm_173 : Cond.methodLink RX4 110 yX4_placeFromBoth ∈ lw_all := lw_in (i := 375) (by decide +kernel) rfl
theorem wm_174 : Cond.instanceMethod yX4_placeFromBoth ∈ lw_all := lw_in (i := 376) (by decide +kernel) rfl
theorem wm_175 : Cond.selects RX4 yX4_placeFromBoth yX4_placeFromBoth ∈ lw_all := lw_in (i := 377) (by decide +kernel) rfl
theorem wm_176 : Cond.methodLink RX4 113 yX4_changesOf ∈ lw_all := lw_in (i := 333) (by decide +kernel) rfl
theorem wm_177 : Cond.instanceMethod yX4_changesOf ∈ lw_all := lw_in (i := 334) (by decide +kernel) rfl
theorem wm_178 : Cond.selects RX4 yX4_changesOf yX4_changesOf ∈ lw_all := lw_in (i := 335) (by decide +kernel) rfl
theorem wm_179 : Cond.methodLink RX4 117 yX2_edits ∈ lw_all := lw_in (i := 337) (by decide +kernel) rfl
theorem wm_180 : Cond.instanceMethod yX2_edits ∈ lw_all := lw_in (i := 338) (by decide +kernel) rfl
theorem wm_181 : Cond.selects RX2 yX2_edits yX2_edits ∈ lw_all := lw_in (i := 339) (by decide +kernel) rfl
theorem wm_182 : Cond.methodLink RX4 120 yX4_addConflict ∈ lw_all := lw_in (i := 341) (by decide +kernel) rfl
theorem wm_183 : Cond.instanceMethod yX4_addConflict ∈ lw_all := lw_in (i := 342) (by decide +kernel) rfl
theorem wm_184 : Cond.selects RX4 yX4_addConflict yX4_addConflict ∈ lw_all := lw_in (i := 343) (by decide +kernel) rfl
theorem wm_185 : Cond.methodLink RX4 123 yX5_choiceOrPreferred ∈ lw_all := lw_in (i := 345) (by decide +kernel) rfl
theorem wm_186 : Cond.instanceMethod yX5_choiceOrPreferred ∈ lw_all := lw_in (i := 346) (by decide +kernel) rfl
theorem wm_187 : Cond.selects RX5 yX5_choiceOrPreferred yX5_choiceOrPreferred ∈ lw_all := lw_in (i := 347) (by decide +kernel) rfl
theorem wm_188 : Cond.methodLink RX4 126 yX5_draft ∈ lw_all := lw_in (i := 357) (by decide +kernel) rfl
theorem wm_189 : Cond.instanceMethod yX5_draft ∈ lw_all := lw_in (i := 358) (by decide +kernel) rfl
theorem wm_190 : Cond.selects RX5 yX5_draft yX5_draft ∈ lw_all := lw_in (i := 359) (by decide +kernel) rfl
theorem wm_191 : Cond.methodLink RX4 130 yX0_contentOf ∈ lw_all := lw_in (i := 361) (by decide +kernel) rfl
theorem wm_192 : Cond.instanceMethod yX0_contentOf ∈ lw_all := lw_in (i := 362) (by decide +kernel) rfl
theorem wm_193 : Cond.selects RX0 yX0_contentOf yX0_contentOf ∈ lw_all := lw_in (i := 363) (by decide +kernel) rfl
theorem wm_194 : Cond.methodLink RX4 133 yX2_moved ∈ lw_all := lw_in (i := 367) (by decide +kernel) rfl
theorem wm_195 : Cond.methodLink RX4 136 yX4_numberBefore ∈ lw_all := lw_in (i := 379) (by decide +kernel) rfl
theorem wm_196 : Cond.static yX4_numberBefore ∈ lw_all := lw_in (i := 380) (by decide +kernel) rfl
theorem wm_197 : Cond.methodLink RX4 140 yX0_find ∈ lw_all := lw_in (i := 382) (by decide +kernel) rfl
theorem wm_198 : Cond.methodLink RX4 143 yX0_numberAt ∈ lw_all := lw_in (i := 383) (by decide +kernel) rfl
theorem wm_199 : Cond.methodLink RX4 146 yX4_placeBehind ∈ lw_all := lw_in (i := 402) (by decide +kernel) rfl
theorem wm_200 : Cond.instanceMethod yX4_placeBehind ∈ lw_all := lw_in (i := 403) (by decide +kernel) rfl
theorem wm_201 : Cond.selects RX4 yX4_placeBehind yX4_placeBehind ∈ lw_all := lw_in (i := 404) (by decide +kernel) rfl
theorem wm_202 : Cond.methodLink RX4 149 yX0_contentAt ∈ lw_all := lw_in (i := 406) (by decide +kernel) rfl
theorem wm_203 : Cond.methodLink RX4 152 yX0_putIn ∈ lw_all := lw_in (i := 407) (by decide +kernel) rfl
theorem wm_204 : Cond.methodLink RX5 3 Lib.objectInit ∈ lw_all := lw_in (i := 78) (by decide +kernel) rfl
theorem wm_205 : Cond.classLink RX5 9 RX0 ∈ lw_all := lw_in (i := 79) (by decide +kernel) rfl
theorem wm_206 : Cond.methodLink RX5 11 yX0_init ∈ lw_all := lw_in (i := 81) (by decide +kernel) rfl
theorem wm_207 : Cond.fieldLink RX5 14 "DraftMerge$State" "base" "LDraftMerge$Blocks;" ∈ lw_all := lw_in (i := 103) (by decide +kernel) rfl
theorem wm_208 : Cond.fieldLink RX5 20 "DraftMerge$State" "draft0" "LDraftMerge$Blocks;" ∈ lw_all := lw_in (i := 106) (by decide +kernel) rfl
theorem wm_209 : Cond.fieldLink RX5 23 "DraftMerge$State" "draft1" "LDraftMerge$Blocks;" ∈ lw_all := lw_in (i := 109) (by decide +kernel) rfl
theorem wm_210 : Cond.fieldLink RX5 26 "DraftMerge$State" "choices" "[I" ∈ lw_all := lw_in (i := 112) (by decide +kernel) rfl
theorem wm_211 : Cond.fieldLink RX5 30 "DraftMerge$State" "numbersUsed" "I" ∈ lw_all := lw_in (i := 113) (by decide +kernel) rfl
theorem wm_212 : Cond.fieldLink RX5 34 "DraftMerge$State" "preferred" "I" ∈ lw_all := lw_in (i := 115) (by decide +kernel) rfl
theorem wm_213 : Cond.fieldLink RX5 37 "DraftMerge$State" "acceptedCount" "I" ∈ lw_all := lw_in (i := 117) (by decide +kernel) rfl
theorem wm_214 : Cond.methodLink RX5 40 yJA_fill ∈ lw_all := lw_in (i := 100) (by decide +kernel) rfl
theorem wm_215 : Cond.static yJA_fill ∈ lw_all := lw_in (i := 101) (by decide +kernel) rfl
theorem wm_216 : Cond.methodLink RX5 46 yX0_isFull ∈ lw_all := lw_in (i := 590) (by decide +kernel) rfl
theorem wm_217 : Cond.fieldLink RX5 50 "DraftMerge$Blocks" "count" "I" ∈ lw_all := lw_in (i := 88) (by decide +kernel) rfl
theorem wm_218 : Cond.methodLink RX5 53 yX0_isLike ∈ lw_all := lw_in (i := 591) (by decide +kernel) rfl
theorem wm_219 : Cond.instanceMethod yX0_isLike ∈ lw_all := lw_in (i := 592) (by decide +kernel) rfl
theorem wm_220 : Cond.selects RX0 yX0_isLike yX0_isLike ∈ lw_all := lw_in (i := 593) (by decide +kernel) rfl
theorem wm_221 : Cond.methodLink RX5 57 yX5_takeNumber ∈ lw_all := lw_in (i := 638) (by decide +kernel) rfl
theorem wm_222 : Cond.instanceMethod yX5_takeNumber ∈ lw_all := lw_in (i := 639) (by decide +kernel) rfl
theorem wm_223 : Cond.selects RX5 yX5_takeNumber yX5_takeNumber ∈ lw_all := lw_in (i := 640) (by decide +kernel) rfl
theorem wm_224 : Cond.methodLink RX5 61 yX0_putLast ∈ lw_all := lw_in (i := 642) (by decide +kernel) rfl
theorem wm_225 : Cond.methodLink RX5 65 yX5_draft ∈ lw_all := lw_in (i := 720) (by decide +kernel) rfl
theorem wm_226 : Cond.methodLink RX5 69 yX0_putIn ∈ lw_all := lw_in (i := 721) (by decide +kernel) rfl
theorem wm_227 : Cond.methodLink RX5 73 yX5_choiceIndex ∈ lw_all := lw_in (i := 353) (by decide +kernel) rfl
theorem wm_228 : Cond.static yX5_choiceIndex ∈ lw_all := lw_in (i := 354) (by decide +kernel) rfl
theorem wm_229 : Cond.methodLink RX5 81 yX5_choice ∈ lw_all := lw_in (i := 349) (by decide +kernel) rfl
theorem wm_230 : Cond.methodLink RX5 88 yX0_clear ∈ lw_all := lw_in (i := 842) (by decide +kernel) rfl
theorem wm_231 : Cond.methodLink RX5 91 yX0_contentAt ∈ lw_all := lw_in (i := 843) (by decide +kernel) rfl
theorem wm_232 : Cond.methodLink RX5 95 yX0_copyFrom ∈ lw_all := lw_in (i := 626) (by decide +kernel) rfl
theorem wm_233 : Cond.instanceMethod yX0_copyFrom ∈ lw_all := lw_in (i := 627) (by decide +kernel) rfl
theorem wm_234 : Cond.selects RX0 yX0_copyFrom yX0_copyFrom ∈ lw_all := lw_in (i := 628) (by decide +kernel) rfl
theorem wm_235 : Cond.methodLink RX6 1 Lib.objectInit ∈ lw_all := lw_in (i := 70) (by decide +kernel) rfl
theorem wm_236 : Cond.classLink RX6 7 RX5 ∈ lw_all := lw_in (i := 73) (by decide +kernel) rfl
theorem wm_237 : Cond.methodLink RX6 9 yX5_init ∈ lw_all := lw_in (i := 75) (by decide +kernel) rfl
theorem wm_238 : Cond.fieldLink RX6 10 "DraftMerge" "state" "LDraftMerge$State;" ∈ lw_all := lw_in (i := 237) (by decide +kernel) rfl
theorem wm_239 : Cond.classLink RX6 16 RX3 ∈ lw_all := lw_in (i := 134) (by decide +kernel) rfl
theorem wm_240 : Cond.instantiable RX3 3 ∈ lw_all := lw_in (i := 135) (by decide +kernel) rfl
theorem wm_241 : Cond.initialized RX3 ∈ lw_all := lw_in (i := 53) (by decide +kernel) rfl
theorem wm_242 : Cond.methodLink RX6 18 yX3_init ∈ lw_all := lw_in (i := 136) (by decide +kernel) rfl
theorem wm_243 : Cond.instanceMethod yX3_init ∈ lw_all := lw_in (i := 137) (by decide +kernel) rfl
theorem wm_244 : Cond.fieldLink RX6 19 "DraftMerge" "history" "LDraftMerge$History;" ∈ lw_all := lw_in (i := 238) (by decide +kernel) rfl
theorem wm_245 : Cond.classLink RX6 23 RX4 ∈ lw_all := lw_in (i := 154) (by decide +kernel) rfl
theorem wm_246 : Cond.instantiable RX4 8 ∈ lw_all := lw_in (i := 155) (by decide +kernel) rfl
theorem wm_247 : Cond.initialized RX4 ∈ lw_all := lw_in (i := 54) (by decide +kernel) rfl
theorem wm_248 : Cond.instanceMethod yX4_init ∈ lw_all := lw_in (i := 157) (by decide +kernel) rfl
theorem wm_249 : Cond.fieldLink RX6 26 "DraftMerge" "merge" "LDraftMerge$Merge;" ∈ lw_all := lw_in (i := 239) (by decide +kernel) rfl
theorem wm_250 : Cond.classLink RX6 30 RX1 ∈ lw_all := lw_in (i := 204) (by decide +kernel) rfl
theorem wm_251 : Cond.instantiable RX1 7 ∈ lw_all := lw_in (i := 205) (by decide +kernel) rfl
theorem wm_252 : Cond.initialized RX1 ∈ lw_all := lw_in (i := 56) (by decide +kernel) rfl
theorem wm_253 : Cond.instanceMethod yX1_init ∈ lw_all := lw_in (i := 207) (by decide +kernel) rfl
theorem wm_254 : Cond.fieldLink RX6 33 "DraftMerge" "text" "LDraftMerge$CommandText;" ∈ lw_all := lw_in (i := 240) (by decide +kernel) rfl
theorem wm_255 : Cond.methodLink RX6 37 yX6_isContent ∈ lw_all := lw_in (i := 515) (by decide +kernel) rfl
theorem wm_256 : Cond.static yX6_isContent ∈ lw_all := lw_in (i := 516) (by decide +kernel) rfl
theorem wm_257 : Cond.methodLink RX6 48 yX5_baseCanGrow ∈ lw_all := lw_in (i := 586) (by decide +kernel) rfl
theorem wm_258 : Cond.instanceMethod yX5_baseCanGrow ∈ lw_all := lw_in (i := 587) (by decide +kernel) rfl
theorem wm_259 : Cond.selects RX5 yX5_baseCanGrow yX5_baseCanGrow ∈ lw_all := lw_in (i := 588) (by decide +kernel) rfl
theorem wm_260 : Cond.methodLink RX6 57 yX3_keep ∈ lw_all := lw_in (i := 611) (by decide +kernel) rfl
theorem wm_261 : Cond.instanceMethod yX3_keep ∈ lw_all := lw_in (i := 612) (by decide +kernel) rfl
theorem wm_262 : Cond.selects RX3 yX3_keep yX3_keep ∈ lw_all := lw_in (i := 613) (by decide +kernel) rfl
theorem wm_263 : Cond.methodLink RX6 61 yX5_growBase ∈ lw_all := lw_in (i := 634) (by decide +kernel) rfl
theorem wm_264 : Cond.instanceMethod yX5_growBase ∈ lw_all := lw_in (i := 635) (by decide +kernel) rfl
theorem wm_265 : Cond.selects RX5 yX5_growBase yX5_growBase ∈ lw_all := lw_in (i := 636) (by decide +kernel) rfl
theorem wm_266 : Cond.methodLink RX6 65 yX6_editFault ∈ lw_all := lw_in (i := 651) (by decide +kernel) rfl
theorem wm_267 : Cond.instanceMethod yX6_editFault ∈ lw_all := lw_in (i := 653) (by decide +kernel) rfl
theorem wm_268 : Cond.selects RX6 yX6_editFault yX6_editFault ∈ lw_all := lw_in (i := 1) (by decide +kernel) rfl
theorem wm_269 : Cond.methodLink RX6 74 yX5_draft ∈ lw_all := lw_in (i := 662) (by decide +kernel) rfl
theorem wm_270 : Cond.methodLink RX6 78 yX0_replaceContent ∈ lw_all := lw_in (i := 680) (by decide +kernel) rfl
theorem wm_271 : Cond.instanceMethod yX0_replaceContent ∈ lw_all := lw_in (i := 681) (by decide +kernel) rfl
theorem wm_272 : Cond.selects RX0 yX0_replaceContent yX0_replaceContent ∈ lw_all := lw_in (i := 682) (by decide +kernel) rfl
theorem wm_273 : Cond.methodLink RX6 84 yX6_moveFault ∈ lw_all := lw_in (i := 691) (by decide +kernel) rfl
theorem wm_274 : Cond.instanceMethod yX6_moveFault ∈ lw_all := lw_in (i := 693) (by decide +kernel) rfl
theorem wm_275 : Cond.selects RX6 yX6_moveFault yX6_moveFault ∈ lw_all := lw_in (i := 3) (by decide +kernel) rfl
theorem wm_276 : Cond.methodLink RX6 87 yX0_shift ∈ lw_all := lw_in (i := 695) (by decide +kernel) rfl
theorem wm_277 : Cond.instanceMethod yX0_shift ∈ lw_all := lw_in (i := 696) (by decide +kernel) rfl
theorem wm_278 : Cond.selects RX0 yX0_shift yX0_shift ∈ lw_all := lw_in (i := 697) (by decide +kernel) rfl
theorem wm_279 : Cond.methodLink RX6 90 yX6_insertFault ∈ lw_all := lw_in (i := 710) (by decide +kernel) rfl
theorem wm_280 : Cond.instanceMethod yX6_insertFault ∈ lw_all := lw_in (i := 712) (by decide +kernel) rfl
theorem wm_281 : Cond.selects RX6 yX6_insertFault yX6_insertFault ∈ lw_all := lw_in (i := 4) (by decide +kernel) rfl
theorem wm_282 : Cond.methodLink RX6 95 yX5_putNewBlock ∈ lw_all := lw_in (i := 716) (by decide +kernel) rfl
theorem wm_283 : Cond.instanceMethod yX5_putNewBlock ∈ lw_all := lw_in (i := 717) (by decide +kernel) rfl
theorem wm_284 : Cond.selects RX5 yX5_putNewBlock yX5_putNewBlock ∈ lw_all := lw_in (i := 718) (by decide +kernel) rfl
theorem wm_285 : Cond.methodLink RX6 98 yX6_removeFault ∈ lw_all := lw_in (i := 729) (by decide +kernel) rfl
theorem wm_286 : Cond.instanceMethod yX6_removeFault ∈ lw_all := lw_in (i := 731) (by decide +kernel) rfl
theorem wm_287 : Cond.selects RX6 yX6_removeFault yX6_removeFault ∈ lw_all := lw_in (i := 5) (by decide +kernel) rfl
theorem wm_288 : Cond.methodLink RX6 101 yX0_takeOut ∈ lw_all := lw_in (i := 733) (by decide +kernel) rfl
theorem wm_289 : Cond.fieldLink RX6 104 "DraftMerge$State" "base" "LDraftMerge$Blocks;" ∈ lw_all := lw_in (i := 104) (by decide +kernel) rfl
theorem wm_290 : Cond.fieldLink RX6 108 "DraftMerge$Blocks" "count" "I" ∈ lw_all := lw_in (i := 90) (by decide +kernel) rfl
theorem wm_291 : Cond.methodLink RX6 112 yX6_isDraft ∈ lw_all := lw_in (i := 659) (by decide +kernel) rfl
theorem wm_292 : Cond.static yX6_isDraft ∈ lw_all := lw_in (i := 660) (by decide +kernel) rfl
theorem wm_293 : Cond.methodLink RX6 117 yX6_hasPosition ∈ lw_all := lw_in (i := 655) (by decide +kernel) rfl
theorem wm_294 : Cond.instanceMethod yX6_hasPosition ∈ lw_all := lw_in (i := 657) (by decide +kernel) rfl
theorem wm_295 : Cond.selects RX6 yX6_hasPosition yX6_hasPosition ∈ lw_all := lw_in (i := 2) (by decide +kernel) rfl
theorem wm_296 : Cond.methodLink RX6 121 yX0_numberAt ∈ lw_all := lw_in (i := 501) (by decide +kernel) rfl
theorem wm_297 : Cond.methodLink RX6 124 yX0_contentAt ∈ lw_all := lw_in (i := 502) (by decide +kernel) rfl
theorem wm_298 : Cond.methodLink RX6 127 yX0_holds ∈ lw_all := lw_in (i := 663) (by decide +kernel) rfl
theorem wm_299 : Cond.methodLink RX6 132 yX4_make ∈ lw_all := lw_in (i := 258) (by decide +kernel) rfl
theorem wm_300 : Cond.instanceMethod yX4_make ∈ lw_all := lw_in (i := 259) (by decide +kernel) rfl
theorem wm_301 : Cond.selects RX4 yX4_make yX4_make ∈ lw_all := lw_in (i := 260) (by decide +kernel) rfl
theorem wm_302 : Cond.methodLink RX6 135 yX4_changesOf ∈ lw_all := lw_in (i := 764) (by decide +kernel) rfl
theorem wm_303 : Cond.methodLink RX6 139 yX2_of ∈ lw_all := lw_in (i := 503) (by decide +kernel) rfl
theorem wm_304 : Cond.methodLink RX6 144 yX2_countMoved ∈ lw_all := lw_in (i := 772) (by decide +kernel) rfl
theorem wm_305 : Cond.instanceMethod yX2_countMoved ∈ lw_all := lw_in (i := 773) (by decide +kernel) rfl
theorem wm_306 : Cond.selects RX2 yX2_countMoved yX2_countMoved ∈ lw_all := lw_in (i := 774) (by decide +kernel) rfl
theorem wm_307 : Cond.fieldLink RX6 147 "DraftMerge$Merge" "merged" "LDraftMerge$Blocks;" ∈ lw_all := lw_in (i := 176) (by decide +kernel) rfl
theorem wm_308 : Cond.fieldLink RX6 152 "DraftMerge$Merge" "conflictCount" "I" ∈ lw_all := lw_in (i := 184) (by decide +kernel) rfl
theorem wm_309 : Cond.methodLink RX6 155 yX4_hasConflict ∈ lw_all := lw_in (i := 799) (by decide +kernel) rfl
theorem wm_310 : Cond.instanceMethod yX4_hasConflict ∈ lw_all := lw_in (i := 800) (by decide +kernel) rfl
theorem wm_311 : Cond.selects RX4 yX4_hasConflict yX4_hasConflict ∈ lw_all := lw_in (i := 801) (by decide +kernel) rfl
theorem wm_312 : Cond.methodLink RX6 160 yX4_blockOfConflict ∈ lw_all := lw_in (i := 504) (by decide +kernel) rfl
theorem wm_313 : Cond.methodLink RX6 163 yX4_kindOfConflict ∈ lw_all := lw_in (i := 505) (by decide +kernel) rfl
theorem wm_314 : Cond.methodLink RX6 168 yX5_setChoice ∈ lw_all := lw_in (i := 819) (by decide +kernel) rfl
theorem wm_315 : Cond.instanceMethod yX5_setChoice ∈ lw_all := lw_in (i := 820) (by decide +kernel) rfl
theorem wm_316 : Cond.selects RX5 yX5_setChoice yX5_setChoice ∈ lw_all := lw_in (i := 821) (by decide +kernel) rfl
theorem wm_317 : Cond.fieldLink RX6 171 "DraftMerge$State" "preferred" "I" ∈ lw_all := lw_in (i := 116) (by decide +kernel) rfl
theorem wm_318 : Cond.methodLink RX6 174 yX4_countOpen ∈ lw_all := lw_in (i := 416) (by decide +kernel) rfl
theorem wm_319 : Cond.instanceMethod yX4_countOpen ∈ lw_all := lw_in (i := 417) (by decide +kernel) rfl
theorem wm_320 : Cond.selects RX4 yX4_countOpen yX4_countOpen ∈ lw_all := lw_in (i := 418) (by decide +kernel) rfl
theorem wm_321 : Cond.methodLink RX6 180 yX5_takeAsBase ∈ lw_all := lw_in (i := 838) (by decide +kernel) rfl
theorem wm_322 : Cond.instanceMethod yX5_takeAsBase ∈ lw_all := lw_in (i := 839) (by decide +kernel) rfl
theorem wm_323 : Cond.selects RX5 yX5_takeAsBase yX5_takeAsBase ∈ lw_all := lw_in (i := 840) (by decide +kernel) rfl
theorem wm_324 : Cond.fieldLink RX6 184 "DraftMerge$State" "acceptedCount" "I" ∈ lw_all := lw_in (i := 118) (by decide +kernel) rfl
theorem wm_325 : Cond.methodLink RX6 187 yX0_countShared ∈ lw_all := lw_in (i := 851) (by decide +kernel) rfl
theorem wm_326 : Cond.instanceMethod yX0_countShared ∈ lw_all := lw_in (i := 852) (by decide +kernel) rfl
theorem wm_327 : Cond.selects RX0 yX0_countShared yX0_countShared ∈ lw_all := lw_in (i := 853) (by decide +kernel) rfl
theorem wm_328 : Cond.fieldLink RX6 193 "DraftMerge$CommandText" "length" "I" ∈ lw_all := lw_in (i := 212) (by decide +kernel) rfl
theorem wm_329 : Cond.methodLink RX6 198 yX1_putLast ∈ lw_all := lw_in (i := 864) (by decide +kernel) rfl
theorem wm_330 : Cond.instanceMethod yX1_putLast ∈ lw_all := lw_in (i := 865) (by decide +kernel) rfl
theorem wm_331 : Cond.selects RX1 yX1_putLast yX1_putLast ∈ lw_all := lw_in (i := 866) (by decide +kernel) rfl
theorem wm_332 : Cond.methodLink RX6 201 yX1_forget ∈ lw_all := lw_in (i := 437) (by decide +kernel) rfl
theorem wm_333 : Cond.instanceMethod yX1_forget ∈ lw_all := lw_in (i := 438) (by decide +kernel) rfl
theorem wm_334 : Cond.selects RX1 yX1_forget yX1_forget ∈ lw_all := lw_in (i := 439) (by decide +kernel) rfl
theorem wm_335 : Cond.methodLink RX6 205 yX1_findError ∈ lw_all := lw_in (i := 445) (by decide +kernel) rfl
theorem wm_336 : Cond.methodLink RX6 208 yX1_isComplete ∈ lw_all := lw_in (i := 876) (by decide +kernel) rfl
theorem wm_337 : Cond.instanceMethod yX1_isComplete ∈ lw_all := lw_in (i := 877) (by decide +kernel) rfl
theorem wm_338 : Cond.selects RX1 yX1_isComplete yX1_isComplete ∈ lw_all := lw_in (i := 878) (by decide +kernel) rfl
theorem wm_339 : Cond.methodLink RX6 213 yX6_executeText ∈ lw_all := lw_in (i := 882) (by decide +kernel) rfl
theorem wm_340 : Cond.instanceMethod yX6_executeText ∈ lw_all := lw_in (i := 884) (by decide +kernel) rfl
theorem wm_341 : Cond.selects RX6 yX6_executeText yX6_executeText ∈ lw_all := lw_in (i := 6) (by decide +kernel) rfl
theorem wm_342 : Cond.fieldLink RX6 216 "DraftMerge$History" "count" "I" ∈ lw_all := lw_in (i := 146) (by decide +kernel) rfl
theorem wm_343 : Cond.methodLink RX6 219 yX3_restoreLast ∈ lw_all := lw_in (i := 901) (by decide +kernel) rfl
theorem wm_344 : Cond.instanceMethod yX3_restoreLast ∈ lw_all := lw_in (i := 902) (by decide +kernel) rfl
theorem wm_345 : Cond.selects RX3 yX3_restoreLast yX3_restoreLast ∈ lw_all := lw_in (i := 903) (by decide +kernel) rfl
theorem wm_346 : Jvm.Cond.constantLong RX6 222 (8129 : Int64) ∈ lw_all := lw_in (i := 493) (by decide +kernel) rfl
theorem wm_347 : Cond.methodLink RX6 224 yX6_mixed ∈ lw_all := lw_in (i := 494) (by decide +kernel) rfl
theorem wm_348 : Cond.static yX6_mixed ∈ lw_all := lw_in (i := 495) (by decide +kernel) rfl
theorem wm_349 : Cond.fieldLink RX6 228 "DraftMerge$State" "draft0" "LDraftMerge$Blocks;" ∈ lw_all := lw_in (i := 108) (by decide +kernel) rfl
theorem wm_350 : Cond.methodLink RX6 231 yX6_mixedWithBlocks ∈ lw_all := lw_in (i := 498) (by decide +kernel) rfl
theorem wm_351 : Cond.static yX6_mixedWithBlocks ∈ lw_all := lw_in (i := 499) (by decide +kernel) rfl
theorem wm_352 : Cond.fieldLink RX6 235 "DraftMerge$State" "draft1" "LDraftMerge$Blocks;" ∈ lw_all := lw_in (i := 111) (by decide +kernel) rfl
theorem wm_353 : Cond.fieldLink RX6 238 "DraftMerge$Merge" "changes0" "LDraftMerge$DraftChanges;" ∈ lw_all := lw_in (i := 178) (by decide +kernel) rfl
theorem wm_354 : Cond.fieldLink RX6 242 "DraftMerge$Merge" "changes1" "LDraftMerge$DraftChanges;" ∈ lw_all := lw_in (i := 180) (by decide +kernel) rfl
theorem wm_355 : Jvm.Cond.constantLong RX6 245 (31 : Int64) ∈ lw_all := lw_in (i := 497) (by decide +kernel) rfl
theorem wm_356 : Cond.methodLink RX6 247 yX0_isFull ∈ lw_all := lw_in (i := 714) (by decide +kernel) rfl
theorem wm_357 : Cond.fieldLink RX6 250 "DraftMerge$State" "numbersUsed" "I" ∈ lw_all := lw_in (i := 114) (by decide +kernel) rfl
theorem wm_358 : Cond.methodLink RX6 253 yX1_beginReading ∈ lw_all := lw_in (i := 886) (by decide +kernel) rfl
theorem wm_359 : Cond.methodLink RX6 256 yX1_codeAt ∈ lw_all := lw_in (i := 887) (by decide +kernel) rfl
theorem wm_360 : Cond.methodLink RX6 259 yX6_executeCommand ∈ lw_all := lw_in (i := 888) (by decide +kernel) rfl
theorem wm_361 : Cond.instanceMethod yX6_executeCommand ∈ lw_all := lw_in (i := 890) (by decide +kernel) rfl
theorem wm_362 : Cond.selects RX6 yX6_executeCommand yX6_executeCommand ∈ lw_all := lw_in (i := 7) (by decide +kernel) rfl
theorem wm_363 : Cond.methodLink RX6 262 yX1_take ∈ lw_all := lw_in (i := 892) (by decide +kernel) rfl
theorem wm_364 : Cond.fieldLink RX6 265 "DraftMerge$CommandText" "draft" "I" ∈ lw_all := lw_in (i := 214) (by decide +kernel) rfl
theorem wm_365 : Cond.fieldLink RX6 267 "DraftMerge$CommandText" "first" "I" ∈ lw_all := lw_in (i := 218) (by decide +kernel) rfl
theorem wm_366 : Cond.fieldLink RX6 270 "DraftMerge$CommandText" "second" "I" ∈ lw_all := lw_in (i := 221) (by decide +kernel) rfl
theorem wm_367 : Cond.fieldLink RX6 273 "DraftMerge$CommandText" "kind" "I" ∈ lw_all := lw_in (i := 216) (by decide +kernel) rfl
theorem wm_368 : Cond.methodLink RX7 1 Lib.objectInit ∈ lw_all := lw_in (i := 910) (by decide +kernel) rfl
theorem wm_369 : Cond.fieldLink RX7 7 "DraftMergeModel" "s" "[I" ∈ lw_all := lw_in (i := 911) (by decide +kernel) rfl
theorem wm_370 : Cond.fieldLink RX7 13 "DraftMergeModel" "before" "[I" ∈ lw_all := lw_in (i := 912) (by decide +kernel) rfl
theorem wm_371 : Cond.fieldLink RX7 16 "DraftMergeModel" "text" "[I" ∈ lw_all := lw_in (i := 914) (by decide +kernel) rfl
theorem wm_372 : Cond.arrayClass .boolean ∈ lw_all := lw_in (i := 978) (by decide +kernel) rfl
theorem wm_373 : Cond.fieldLink RX7 19 "DraftMergeModel" "kept" "[Z" ∈ lw_all := lw_in (i := 917) (by decide +kernel) rfl
theorem wm_374 : Cond.fieldLink RX7 23 "DraftMergeModel" "merged" "[I" ∈ lw_all := lw_in (i := 918) (by decide +kernel) rfl
theorem wm_375 : Cond.fieldLink RX7 26 "DraftMergeModel" "inside" "[I" ∈ lw_all := lw_in (i := 919) (by decide +kernel) rfl
theorem wm_376 : Cond.fieldLink RX7 29 "DraftMergeModel" "about" "[I" ∈ lw_all := lw_in (i := 921) (by decide +kernel) rfl
theorem wm_377 : Cond.fieldLink RX7 32 "DraftMergeModel" "kind" "[I" ∈ lw_all := lw_in (i := 922) (by decide +kernel) rfl
theorem wm_378 : Cond.fieldLink RX7 35 "DraftMergeModel" "place" "[I" ∈ lw_all := lw_in (i := 924) (by decide +kernel) rfl
theorem wm_379 : Cond.fieldLink RX7 38 "DraftMergeModel" "value" "[I" ∈ lw_all := lw_in (i := 925) (by decide +kernel) rfl
theorem wm_380 : Cond.fieldLink RX7 41 "DraftMergeModel" "longest" "[I" ∈ lw_all := lw_in (i := 926) (by decide +kernel) rfl
theorem wm_381 : Cond.fieldLink RX7 44 "DraftMergeModel" "many" "I" ∈ lw_all := lw_in (i := 920) (by decide +kernel) rfl
theorem wm_382 : Cond.fieldLink RX7 48 "DraftMergeModel" "thrown" "I" ∈ lw_all := lw_in (i := 916) (by decide +kernel) rfl
theorem wm_383 : Cond.fieldLink RX7 51 "DraftMergeModel" "saved" "I" ∈ lw_all := lw_in (i := 913) (by decide +kernel) rfl
theorem wm_384 : Cond.methodLink RX7 54 yX7_in ∈ lw_all := lw_in (i := 987) (by decide +kernel) rfl
theorem wm_385 : Cond.static yX7_in ∈ lw_all := lw_in (i := 988) (by decide +kernel) rfl
theorem wm_386 : Cond.methodLink RX7 58 yX7_at ∈ lw_all := lw_in (i := 998) (by decide +kernel) rfl
theorem wm_387 : Cond.static yX7_at ∈ lw_all := lw_in (i := 999) (by decide +kernel) rfl
theorem wm_388 : Cond.methodLink RX7 62 yX7_isDraft ∈ lw_all := lw_in (i := 1033) (by decide +kernel) rfl
theorem wm_389 : Cond.static yX7_isDraft ∈ lw_all := lw_in (i := 1034) (by decide +kernel) rfl
theorem wm_390 : Cond.methodLink RX7 66 yX7_sizeOf ∈ lw_all := lw_in (i := 994) (by decide +kernel) rfl
theorem wm_391 : Cond.instanceMethod yX7_sizeOf ∈ lw_all := lw_in (i := 996) (by decide +kernel) rfl
theorem wm_392 : Cond.selects RX7 yX7_sizeOf yX7_sizeOf ∈ lw_all := lw_in (i := 9) (by decide +kernel) rfl
theorem wm_393 : Cond.methodLink RX7 70 yX7_numberAt ∈ lw_all := lw_in (i := 1001) (by decide +kernel) rfl
theorem wm_394 : Cond.instanceMethod yX7_numberAt ∈ lw_all := lw_in (i := 1003) (by decide +kernel) rfl
theorem wm_395 : Cond.selects RX7 yX7_numberAt yX7_numberAt ∈ lw_all := lw_in (i := 10) (by decide +kernel) rfl
theorem wm_396 : Cond.methodLink RX7 73 yX7_placeOf ∈ lw_all := lw_in (i := 1112) (by decide +kernel) rfl
theorem wm_397 : Cond.instanceMethod yX7_placeOf ∈ lw_all := lw_in (i := 1114) (by decide +kernel) rfl
theorem wm_398 : Cond.selects RX7 yX7_placeOf yX7_placeOf ∈ lw_all := lw_in (i := 28) (by decide +kernel) rfl
theorem wm_399 : Cond.methodLink RX7 76 yX7_insideAt ∈ lw_all := lw_in (i := 1005) (by decide +kernel) rfl
theorem wm_400 : Cond.instanceMethod yX7_insideAt ∈ lw_all := lw_in (i := 1007) (by decide +kernel) rfl
theorem wm_401 : Cond.selects RX7 yX7_insideAt yX7_insideAt ∈ lw_all := lw_in (i := 11) (by decide +kernel) rfl
theorem wm_402 : Cond.methodLink RX7 79 yX7_has ∈ lw_all := lw_in (i := 1108) (by decide +kernel) rfl
theorem wm_403 : Cond.instanceMethod yX7_has ∈ lw_all := lw_in (i := 1110) (by decide +kernel) rfl
theorem wm_404 : Cond.selects RX7 yX7_has yX7_has ∈ lw_all := lw_in (i := 27) (by decide +kernel) rfl
theorem wm_405 : Cond.methodLink RX7 83 yX7_contentIn ∈ lw_all := lw_in (i := 1120) (by decide +kernel) rfl
theorem wm_406 : Cond.instanceMethod yX7_contentIn ∈ lw_all := lw_in (i := 1122) (by decide +kernel) rfl
theorem wm_407 : Cond.selects RX7 yX7_contentIn yX7_contentIn ∈ lw_all := lw_in (i := 30) (by decide +kernel) rfl
theorem wm_408 : Cond.methodLink RX7 86 yX7_isChanged ∈ lw_all := lw_in (i := 990) (by decide +kernel) rfl
theorem wm_409 : Cond.instanceMethod yX7_isChanged ∈ lw_all := lw_in (i := 992) (by decide +kernel) rfl
theorem wm_410 : Cond.selects RX7 yX7_isChanged yX7_isChanged ∈ lw_all := lw_in (i := 8) (by decide +kernel) rfl
theorem wm_411 : Cond.methodLink RX7 89 yX7_refused ∈ lw_all := lw_in (i := 1009) (by decide +kernel) rfl
theorem wm_412 : Cond.instanceMethod yX7_refused ∈ lw_all := lw_in (i := 1011) (by decide +kernel) rfl
theorem wm_413 : Cond.selects RX7 yX7_refused yX7_refused ∈ lw_all := lw_in (i := 12) (by decide +kernel) rfl
theorem wm_414 : Cond.methodLink RX7 92 yX7_saves ∈ lw_all := lw_in (i := 1013) (by decide +kernel) rfl
theorem wm_415 : Cond.instanceMethod yX7_saves ∈ lw_all := lw_in (i := 1015) (by decide +kernel) rfl
theorem wm_416 : Cond.selects RX7 yX7_saves yX7_saves ∈ lw_all := lw_in (i := 13) (by decide +kernel) rfl
theorem wm_417 : Cond.methodLink RX7 95 yX7_puts ∈ lw_all := lw_in (i := 1017) (by decide +kernel) rfl
theorem wm_418 : Cond.instanceMethod yX7_puts ∈ lw_all := lw_in (i := 1019) (by decide +kernel) rfl
theorem wm_419 : Cond.selects RX7 yX7_puts yX7_puts ∈ lw_all := lw_in (i := 14) (by decide +kernel) rfl
theorem wm_420 : Cond.methodLink RX7 99 yX7_isThere ∈ lw_all := lw_in (i := 1029) (by decide +kernel) rfl
theorem wm_421 : Cond.instanceMethod yX7_isThere ∈ lw_all := lw_in (i := 1031) (by decide +kernel) rfl
theorem wm_422 : Cond.selects RX7 yX7_isThere yX7_isThere ∈ lw_all := lw_in (i := 16) (by decide +kernel) rfl
theorem wm_423 : Cond.methodLink RX7 102 yX7_takes ∈ lw_all := lw_in (i := 1052) (by decide +kernel) rfl
theorem wm_424 : Cond.instanceMethod yX7_takes ∈ lw_all := lw_in (i := 1054) (by decide +kernel) rfl
theorem wm_425 : Cond.selects RX7 yX7_takes yX7_takes ∈ lw_all := lw_in (i := 20) (by decide +kernel) rfl
theorem wm_426 : Cond.methodLink RX7 106 yX7_barEdit ∈ lw_all := lw_in (i := 1025) (by decide +kernel) rfl
theorem wm_427 : Cond.instanceMethod yX7_barEdit ∈ lw_all := lw_in (i := 1027) (by decide +kernel) rfl
theorem wm_428 : Cond.selects RX7 yX7_barEdit yX7_barEdit ∈ lw_all := lw_in (i := 15) (by decide +kernel) rfl
theorem wm_429 : Cond.methodLink RX7 110 yX7_edits ∈ lw_all := lw_in (i := 1036) (by decide +kernel) rfl
theorem wm_430 : Cond.instanceMethod yX7_edits ∈ lw_all := lw_in (i := 1038) (by decide +kernel) rfl
theorem wm_431 : Cond.selects RX7 yX7_edits yX7_edits ∈ lw_all := lw_in (i := 17) (by decide +kernel) rfl
theorem wm_432 : Cond.methodLink RX7 113 yX7_barMove ∈ lw_all := lw_in (i := 1044) (by decide +kernel) rfl
theorem wm_433 : Cond.instanceMethod yX7_barMove ∈ lw_all := lw_in (i := 1046) (by decide +kernel) rfl
theorem wm_434 : Cond.selects RX7 yX7_barMove yX7_barMove ∈ lw_all := lw_in (i := 18) (by decide +kernel) rfl
theorem wm_435 : Cond.methodLink RX7 116 yX7_shifts ∈ lw_all := lw_in (i := 1048) (by decide +kernel) rfl
theorem wm_436 : Cond.instanceMethod yX7_shifts ∈ lw_all := lw_in (i := 1050) (by decide +kernel) rfl
theorem wm_437 : Cond.selects RX7 yX7_shifts yX7_shifts ∈ lw_all := lw_in (i := 19) (by decide +kernel) rfl
theorem wm_438 : Cond.methodLink RX7 119 yX7_barInsert ∈ lw_all := lw_in (i := 1060) (by decide +kernel) rfl
theorem wm_439 : Cond.instanceMethod yX7_barInsert ∈ lw_all := lw_in (i := 1062) (by decide +kernel) rfl
theorem wm_440 : Cond.selects RX7 yX7_barInsert yX7_barInsert ∈ lw_all := lw_in (i := 21) (by decide +kernel) rfl
theorem wm_441 : Cond.methodLink RX7 122 yX7_inserts ∈ lw_all := lw_in (i := 1064) (by decide +kernel) rfl
theorem wm_442 : Cond.instanceMethod yX7_inserts ∈ lw_all := lw_in (i := 1066) (by decide +kernel) rfl
theorem wm_443 : Cond.selects RX7 yX7_inserts yX7_inserts ∈ lw_all := lw_in (i := 22) (by decide +kernel) rfl
theorem wm_444 : Cond.methodLink RX7 125 yX7_barRemove ∈ lw_all := lw_in (i := 1072) (by decide +kernel) rfl
theorem wm_445 : Cond.instanceMethod yX7_barRemove ∈ lw_all := lw_in (i := 1074) (by decide +kernel) rfl
theorem wm_446 : Cond.selects RX7 yX7_barRemove yX7_barRemove ∈ lw_all := lw_in (i := 23) (by decide +kernel) rfl
theorem wm_447 : Cond.methodLink RX7 128 yX7_removes ∈ lw_all := lw_in (i := 1076) (by decide +kernel) rfl
theorem wm_448 : Cond.instanceMethod yX7_removes ∈ lw_all := lw_in (i := 1078) (by decide +kernel) rfl
theorem wm_449 : Cond.selects RX7 yX7_removes yX7_removes ∈ lw_all := lw_in (i := 24) (by decide +kernel) rfl
theorem wm_450 : Cond.methodLink RX7 131 yX7_doesEdit ∈ lw_all := lw_in (i := 1116) (by decide +kernel) rfl
theorem wm_451 : Cond.instanceMethod yX7_doesEdit ∈ lw_all := lw_in (i := 1118) (by decide +kernel) rfl
theorem wm_452 : Cond.selects RX7 yX7_doesEdit yX7_doesEdit ∈ lw_all := lw_in (i := 29) (by decide +kernel) rfl
theorem wm_453 : Cond.methodLink RX7 134 yX7_doesMove ∈ lw_all := lw_in (i := 1124) (by decide +kernel) rfl
theorem wm_454 : Cond.instanceMethod yX7_doesMove ∈ lw_all := lw_in (i := 1126) (by decide +kernel) rfl
theorem wm_455 : Cond.selects RX7 yX7_doesMove yX7_doesMove ∈ lw_all := lw_in (i := 31) (by decide +kernel) rfl
theorem wm_456 : Cond.methodLink RX7 137 yX7_keeps ∈ lw_all := lw_in (i := 1100) (by decide +kernel) rfl
theorem wm_457 : Cond.instanceMethod yX7_keeps ∈ lw_all := lw_in (i := 1102) (by decide +kernel) rfl
theorem wm_458 : Cond.selects RX7 yX7_keeps yX7_keeps ∈ lw_all := lw_in (i := 25) (by decide +kernel) rfl
theorem wm_459 : Cond.methodLink RX7 141 yX7_changeOf ∈ lw_all := lw_in (i := 1104) (by decide +kernel) rfl
theorem wm_460 : Cond.instanceMethod yX7_changeOf ∈ lw_all := lw_in (i := 1106) (by decide +kernel) rfl
theorem wm_461 : Cond.selects RX7 yX7_changeOf yX7_changeOf ∈ lw_all := lw_in (i := 26) (by decide +kernel) rfl
theorem wm_462 : Cond.fieldLink RX7 144 "DraftMergeModel" "conflicts" "I" ∈ lw_all := lw_in (i := 923) (by decide +kernel) rfl
theorem wm_463 : Cond.methodLink RX7 147 yX7_chosen ∈ lw_all := lw_in (i := 1144) (by decide +kernel) rfl
theorem wm_464 : Cond.instanceMethod yX7_chosen ∈ lw_all := lw_in (i := 1146) (by decide +kernel) rfl
theorem wm_465 : Cond.selects RX7 yX7_chosen yX7_chosen ∈ lw_all := lw_in (i := 34) (by decide +kernel) rfl
theorem wm_466 : Cond.methodLink RX7 150 yX7_ahead ∈ lw_all := lw_in (i := 1148) (by decide +kernel) rfl
theorem wm_467 : Cond.instanceMethod yX7_ahead ∈ lw_all := lw_in (i := 1150) (by decide +kernel) rfl
theorem wm_468 : Cond.selects RX7 yX7_ahead yX7_ahead ∈ lw_all := lw_in (i := 35) (by decide +kernel) rfl
theorem wm_469 : Cond.methodLink RX7 153 yX7_mergedAt ∈ lw_all := lw_in (i := 1160) (by decide +kernel) rfl
theorem wm_470 : Cond.instanceMethod yX7_mergedAt ∈ lw_all := lw_in (i := 1162) (by decide +kernel) rfl
theorem wm_471 : Cond.selects RX7 yX7_mergedAt yX7_mergedAt ∈ lw_all := lw_in (i := 38) (by decide +kernel) rfl
theorem wm_472 : Cond.methodLink RX7 156 yX7_lays ∈ lw_all := lw_in (i := 1152) (by decide +kernel) rfl
theorem wm_473 : Cond.instanceMethod yX7_lays ∈ lw_all := lw_in (i := 1154) (by decide +kernel) rfl
theorem wm_474 : Cond.selects RX7 yX7_lays yX7_lays ∈ lw_all := lw_in (i := 36) (by decide +kernel) rfl
theorem wm_475 : Cond.methodLink RX7 160 yX7_judges ∈ lw_all := lw_in (i := 1140) (by decide +kernel) rfl
theorem wm_476 : Cond.instanceMethod yX7_judges ∈ lw_all := lw_in (i := 1142) (by decide +kernel) rfl
theorem wm_477 : Cond.selects RX7 yX7_judges yX7_judges ∈ lw_all := lw_in (i := 33) (by decide +kernel) rfl
theorem wm_478 : Cond.methodLink RX7 163 yX7_laysOf ∈ lw_all := lw_in (i := 1156) (by decide +kernel) rfl
theorem wm_479 : Cond.instanceMethod yX7_laysOf ∈ lw_all := lw_in (i := 1158) (by decide +kernel) rfl
theorem wm_480 : Cond.selects RX7 yX7_laysOf yX7_laysOf ∈ lw_all := lw_in (i := 37) (by decide +kernel) rfl
theorem wm_481 : Cond.methodLink RX7 166 yX7_merges ∈ lw_all := lw_in (i := 1136) (by decide +kernel) rfl
theorem wm_482 : Cond.instanceMethod yX7_merges ∈ lw_all := lw_in (i := 1138) (by decide +kernel) rfl
theorem wm_483 : Cond.selects RX7 yX7_merges yX7_merges ∈ lw_all := lw_in (i := 32) (by decide +kernel) rfl
theorem wm_484 : Cond.methodLink RX7 169 yX7_openOnes ∈ lw_all := lw_in (i := 1196) (by decide +kernel) rfl
theorem wm_485 : Cond.instanceMethod yX7_openOnes ∈ lw_all := lw_in (i := 1198) (by decide +kernel) rfl
theorem wm_486 : Cond.selects RX7 yX7_openOnes yX7_openOnes ∈ lw_all := lw_in (i := 39) (by decide +kernel) rfl
theorem wm_487 : Cond.fieldLink RX7 173 "DraftMergeModel" "length" "I" ∈ lw_all := lw_in (i := 915) (by decide +kernel) rfl
theorem wm_488 : Cond.fieldLink RX7 176 "DraftMergeModel" "spot" "I" ∈ lw_all := lw_in (i := 927) (by decide +kernel) rfl
theorem wm_489 : Cond.fieldLink RX7 179 "DraftMergeModel" "isWrong" "Z" ∈ lw_all := lw_in (i := 928) (by decide +kernel) rfl
theorem wm_490 : Cond.methodLink RX7 183 yX7_next ∈ lw_all := lw_in (i := 1236) (by decide +kernel) rfl
theorem wm_491 : Cond.instanceMethod yX7_next ∈ lw_all := lw_in (i := 1238) (by decide +kernel) rfl
theorem wm_492 : Cond.selects RX7 yX7_next yX7_next ∈ lw_all := lw_in (i := 43) (by decide +kernel) rfl
theorem wm_493 : Cond.methodLink RX7 186 yX7_digit ∈ lw_all := lw_in (i := 1232) (by decide +kernel) rfl
theorem wm_494 : Cond.instanceMethod yX7_digit ∈ lw_all := lw_in (i := 1234) (by decide +kernel) rfl
theorem wm_495 : Cond.selects RX7 yX7_digit yX7_digit ∈ lw_all := lw_in (i := 42) (by decide +kernel) rfl
theorem wm_496 : Cond.fieldLink RX7 189 "DraftMergeModel" "draft" "I" ∈ lw_all := lw_in (i := 929) (by decide +kernel) rfl
theorem wm_497 : Cond.fieldLink RX7 192 "DraftMergeModel" "letter" "I" ∈ lw_all := lw_in (i := 930) (by decide +kernel) rfl
theorem wm_498 : Cond.methodLink RX7 195 yX7_number ∈ lw_all := lw_in (i := 1240) (by decide +kernel) rfl
theorem wm_499 : Cond.instanceMethod yX7_number ∈ lw_all := lw_in (i := 1242) (by decide +kernel) rfl
theorem wm_500 : Cond.selects RX7 yX7_number yX7_number ∈ lw_all := lw_in (i := 44) (by decide +kernel) rfl
theorem wm_501 : Cond.fieldLink RX7 198 "DraftMergeModel" "first" "I" ∈ lw_all := lw_in (i := 931) (by decide +kernel) rfl
theorem wm_502 : Cond.methodLink RX7 201 yX7_sign ∈ lw_all := lw_in (i := 1244) (by decide +kernel) rfl
theorem wm_503 : Cond.instanceMethod yX7_sign ∈ lw_all := lw_in (i := 1246) (by decide +kernel) rfl
theorem wm_504 : Cond.selects RX7 yX7_sign yX7_sign ∈ lw_all := lw_in (i := 45) (by decide +kernel) rfl
theorem wm_505 : Cond.fieldLink RX7 204 "DraftMergeModel" "second" "I" ∈ lw_all := lw_in (i := 932) (by decide +kernel) rfl
theorem wm_506 : Cond.methodLink RX7 207 yX7_command ∈ lw_all := lw_in (i := 1228) (by decide +kernel) rfl
theorem wm_507 : Cond.instanceMethod yX7_command ∈ lw_all := lw_in (i := 1230) (by decide +kernel) rfl
theorem wm_508 : Cond.selects RX7 yX7_command yX7_command ∈ lw_all := lw_in (i := 41) (by decide +kernel) rfl
theorem wm_509 : Cond.methodLink RX7 210 yX7_isWhole ∈ lw_all := lw_in (i := 1224) (by decide +kernel) rfl
theorem wm_510 : Cond.instanceMethod yX7_isWhole ∈ lw_all := lw_in (i := 1226) (by decide +kernel) rfl
theorem wm_511 : Cond.selects RX7 yX7_isWhole yX7_isWhole ∈ lw_all := lw_in (i := 40) (by decide +kernel) rfl
theorem wm_512 : Cond.methodLink RX7 214 yX7_bars ∈ lw_all := lw_in (i := 1252) (by decide +kernel) rfl
theorem wm_513 : Cond.instanceMethod yX7_bars ∈ lw_all := lw_in (i := 1254) (by decide +kernel) rfl
theorem wm_514 : Cond.selects RX7 yX7_bars yX7_bars ∈ lw_all := lw_in (i := 46) (by decide +kernel) rfl
theorem wm_515 : Cond.methodLink RX7 217 yX7_does ∈ lw_all := lw_in (i := 1256) (by decide +kernel) rfl
theorem wm_516 : Cond.instanceMethod yX7_does ∈ lw_all := lw_in (i := 1258) (by decide +kernel) rfl
theorem wm_517 : Cond.selects RX7 yX7_does yX7_does ∈ lw_all := lw_in (i := 47) (by decide +kernel) rfl
theorem wm_518 : Jvm.Cond.constantLong RX7 220 (251999 : Int64) ∈ lw_all := lw_in (i := 1272) (by decide +kernel) rfl
theorem wm_519 : Jvm.Cond.constantLong RX7 222 (31 : Int64) ∈ lw_all := lw_in (i := 1273) (by decide +kernel) rfl
theorem wm_520 : Cond.methodLink RL 7 yX6_addBase ∈ lw_all := lw_in (i := 511) (by decide +kernel) rfl
theorem wm_521 : Cond.classLink RL 13 "java/lang/IllegalArgumentException" ∈ lw_all := lw_in (i := 509) (by decide +kernel) rfl
theorem wm_522 : Cond.classLink RL 15 "java/lang/IllegalStateException" ∈ lw_all := lw_in (i := 510) (by decide +kernel) rfl
theorem wm_523 : Cond.instanceMethod yX6_addBase ∈ lw_all := lw_in (i := 512) (by decide +kernel) rfl
theorem wm_524 : Cond.selects RX6 yX6_addBase yX6_addBase ∈ lw_all := lw_in (i := 513) (by decide +kernel) rfl
theorem wm_525 : Cond.methodLink RL 17 yX6_edit ∈ lw_all := lw_in (i := 647) (by decide +kernel) rfl
theorem wm_526 : Cond.classLink RL 21 "java/lang/IndexOutOfBoundsException" ∈ lw_all := lw_in (i := 646) (by decide +kernel) rfl
theorem wm_527 : Cond.instanceMethod yX6_edit ∈ lw_all := lw_in (i := 648) (by decide +kernel) rfl
theorem wm_528 : Cond.selects RX6 yX6_edit yX6_edit ∈ lw_all := lw_in (i := 649) (by decide +kernel) rfl
theorem wm_529 : Cond.methodLink RL 23 yX6_move ∈ lw_all := lw_in (i := 687) (by decide +kernel) rfl
theorem wm_530 : Cond.instanceMethod yX6_move ∈ lw_all := lw_in (i := 688) (by decide +kernel) rfl
theorem wm_531 : Cond.selects RX6 yX6_move yX6_move ∈ lw_all := lw_in (i := 689) (by decide +kernel) rfl
theorem wm_532 : Cond.methodLink RL 26 yX6_insert ∈ lw_all := lw_in (i := 706) (by decide +kernel) rfl
theorem wm_533 : Cond.instanceMethod yX6_insert ∈ lw_all := lw_in (i := 707) (by decide +kernel) rfl
theorem wm_534 : Cond.selects RX6 yX6_insert yX6_insert ∈ lw_all := lw_in (i := 708) (by decide +kernel) rfl
theorem wm_535 : Cond.methodLink RL 29 yX6_remove ∈ lw_all := lw_in (i := 725) (by decide +kernel) rfl
theorem wm_536 : Cond.instanceMethod yX6_remove ∈ lw_all := lw_in (i := 726) (by decide +kernel) rfl
theorem wm_537 : Cond.selects RX6 yX6_remove yX6_remove ∈ lw_all := lw_in (i := 727) (by decide +kernel) rfl
theorem wm_538 : Cond.methodLink RL 33 yX6_size ∈ lw_all := lw_in (i := 737) (by decide +kernel) rfl
theorem wm_539 : Cond.instanceMethod yX6_size ∈ lw_all := lw_in (i := 738) (by decide +kernel) rfl
theorem wm_540 : Cond.selects RX6 yX6_size yX6_size ∈ lw_all := lw_in (i := 739) (by decide +kernel) rfl
theorem wm_541 : Cond.methodLink RL 36 yX6_block ∈ lw_all := lw_in (i := 745) (by decide +kernel) rfl
theorem wm_542 : Cond.instanceMethod yX6_block ∈ lw_all := lw_in (i := 746) (by decide +kernel) rfl
theorem wm_543 : Cond.selects RX6 yX6_block yX6_block ∈ lw_all := lw_in (i := 747) (by decide +kernel) rfl
theorem wm_544 : Cond.methodLink RL 39 yX6_content ∈ lw_all := lw_in (i := 752) (by decide +kernel) rfl
theorem wm_545 : Cond.instanceMethod yX6_content ∈ lw_all := lw_in (i := 753) (by decide +kernel) rfl
theorem wm_546 : Cond.selects RX6 yX6_content yX6_content ∈ lw_all := lw_in (i := 754) (by decide +kernel) rfl
theorem wm_547 : Cond.methodLink RL 42 yX6_change ∈ lw_all := lw_in (i := 759) (by decide +kernel) rfl
theorem wm_548 : Cond.instanceMethod yX6_change ∈ lw_all := lw_in (i := 760) (by decide +kernel) rfl
theorem wm_549 : Cond.selects RX6 yX6_change yX6_change ∈ lw_all := lw_in (i := 761) (by decide +kernel) rfl
theorem wm_550 : Cond.methodLink RL 45 yX6_moves ∈ lw_all := lw_in (i := 768) (by decide +kernel) rfl
theorem wm_551 : Cond.instanceMethod yX6_moves ∈ lw_all := lw_in (i := 769) (by decide +kernel) rfl
theorem wm_552 : Cond.selects RX6 yX6_moves yX6_moves ∈ lw_all := lw_in (i := 770) (by decide +kernel) rfl
theorem wm_553 : Cond.methodLink RL 48 yX6_mergedBlock ∈ lw_all := lw_in (i := 780) (by decide +kernel) rfl
theorem wm_554 : Cond.instanceMethod yX6_mergedBlock ∈ lw_all := lw_in (i := 781) (by decide +kernel) rfl
theorem wm_555 : Cond.selects RX6 yX6_mergedBlock yX6_mergedBlock ∈ lw_all := lw_in (i := 782) (by decide +kernel) rfl
theorem wm_556 : Cond.methodLink RL 51 yX6_mergedContent ∈ lw_all := lw_in (i := 788) (by decide +kernel) rfl
theorem wm_557 : Cond.instanceMethod yX6_mergedContent ∈ lw_all := lw_in (i := 789) (by decide +kernel) rfl
theorem wm_558 : Cond.selects RX6 yX6_mergedContent yX6_mergedContent ∈ lw_all := lw_in (i := 790) (by decide +kernel) rfl
theorem wm_559 : Cond.methodLink RL 54 yX6_conflictBlock ∈ lw_all := lw_in (i := 795) (by decide +kernel) rfl
theorem wm_560 : Cond.instanceMethod yX6_conflictBlock ∈ lw_all := lw_in (i := 796) (by decide +kernel) rfl
theorem wm_561 : Cond.selects RX6 yX6_conflictBlock yX6_conflictBlock ∈ lw_all := lw_in (i := 797) (by decide +kernel) rfl
theorem wm_562 : Cond.methodLink RL 57 yX6_conflictKind ∈ lw_all := lw_in (i := 807) (by decide +kernel) rfl
theorem wm_563 : Cond.instanceMethod yX6_conflictKind ∈ lw_all := lw_in (i := 808) (by decide +kernel) rfl
theorem wm_564 : Cond.selects RX6 yX6_conflictKind yX6_conflictKind ∈ lw_all := lw_in (i := 809) (by decide +kernel) rfl
theorem wm_565 : Cond.methodLink RL 60 yX6_choose ∈ lw_all := lw_in (i := 814) (by decide +kernel) rfl
theorem wm_566 : Cond.instanceMethod yX6_choose ∈ lw_all := lw_in (i := 815) (by decide +kernel) rfl
theorem wm_567 : Cond.selects RX6 yX6_choose yX6_choose ∈ lw_all := lw_in (i := 816) (by decide +kernel) rfl
theorem wm_568 : Cond.methodLink RL 63 yX6_prefer ∈ lw_all := lw_in (i := 826) (by decide +kernel) rfl
theorem wm_569 : Cond.instanceMethod yX6_prefer ∈ lw_all := lw_in (i := 827) (by decide +kernel) rfl
theorem wm_570 : Cond.selects RX6 yX6_prefer yX6_prefer ∈ lw_all := lw_in (i := 828) (by decide +kernel) rfl
theorem wm_571 : Cond.methodLink RL 66 yX6_accept ∈ lw_all := lw_in (i := 833) (by decide +kernel) rfl
theorem wm_572 : Cond.instanceMethod yX6_accept ∈ lw_all := lw_in (i := 834) (by decide +kernel) rfl
theorem wm_573 : Cond.selects RX6 yX6_accept yX6_accept ∈ lw_all := lw_in (i := 835) (by decide +kernel) rfl
theorem wm_574 : Cond.methodLink RL 70 yX6_similarity ∈ lw_all := lw_in (i := 847) (by decide +kernel) rfl
theorem wm_575 : Cond.instanceMethod yX6_similarity ∈ lw_all := lw_in (i := 848) (by decide +kernel) rfl
theorem wm_576 : Cond.selects RX6 yX6_similarity yX6_similarity ∈ lw_all := lw_in (i := 849) (by decide +kernel) rfl
theorem wm_577 : Cond.methodLink RL 74 yX6_append ∈ lw_all := lw_in (i := 858) (by decide +kernel) rfl
theorem wm_578 : Cond.instanceMethod yX6_append ∈ lw_all := lw_in (i := 859) (by decide +kernel) rfl
theorem wm_579 : Cond.selects RX6 yX6_append yX6_append ∈ lw_all := lw_in (i := 860) (by decide +kernel) rfl
theorem wm_580 : Cond.methodLink RL 77 yX6_run ∈ lw_all := lw_in (i := 872) (by decide +kernel) rfl
theorem wm_581 : Cond.instanceMethod yX6_run ∈ lw_all := lw_in (i := 873) (by decide +kernel) rfl
theorem wm_582 : Cond.selects RX6 yX6_run yX6_run ∈ lw_all := lw_in (i := 874) (by decide +kernel) rfl
theorem wm_583 : Cond.methodLink RL 80 yX6_undo ∈ lw_all := lw_in (i := 896) (by decide +kernel) rfl
theorem wm_584 : Cond.instanceMethod yX6_undo ∈ lw_all := lw_in (i := 897) (by decide +kernel) rfl
theorem wm_585 : Cond.selects RX6 yX6_undo yX6_undo ∈ lw_all := lw_in (i := 898) (by decide +kernel) rfl
theorem wm_586 : Cond.code yX0_init cX0_init 3 none ∈ lw_all := lw_in (i := 83) (by decide +kernel) rfl
theorem wm_587 : Cond.code yX0_holds cX0_holds 2 (some .boolean) ∈ lw_all := lw_in (i := 280) (by decide +kernel) rfl
theorem wm_588 : Cond.code yX0_isFull cX0_isFull 1 (some .boolean) ∈ lw_all := lw_in (i := 396) (by decide +kernel) rfl
theorem wm_589 : Cond.code yX0_numberAt cX0_numberAt 2 (some .int) ∈ lw_all := lw_in (i := 276) (by decide +kernel) rfl
theorem wm_590 : Cond.code yX0_contentAt cX0_contentAt 2 (some .int) ∈ lw_all := lw_in (i := 287) (by decide +kernel) rfl
theorem wm_591 : Cond.code yX0_find cX0_find 3 (some .int) ∈ lw_all := lw_in (i := 272) (by decide +kernel) rfl
theorem wm_592 : Cond.code yX0_contentOf cX0_contentOf 2 (some .int) ∈ lw_all := lw_in (i := 364) (by decide +kernel) rfl
theorem wm_593 : Cond.code yX0_replaceContent cX0_replaceContent 4 (some .int) ∈ lw_all := lw_in (i := 683) (by decide +kernel) rfl
theorem wm_594 : Cond.code yX0_putIn cX0_putIn 5 none ∈ lw_all := lw_in (i := 392) (by decide +kernel) rfl
theorem wm_595 : Cond.code yX0_putLast cX0_putLast 3 none ∈ lw_all := lw_in (i := 388) (by decide +kernel) rfl
theorem wm_596 : Cond.code yX0_takeOut cX0_takeOut 4 (some .int) ∈ lw_all := lw_in (i := 702) (by decide +kernel) rfl
theorem wm_597 : Cond.code yX0_shift cX0_shift 5 (some .int) ∈ lw_all := lw_in (i := 698) (by decide +kernel) rfl
theorem wm_598 : Cond.code yX0_clear cX0_clear 1 none ∈ lw_all := lw_in (i := 319) (by decide +kernel) rfl
theorem wm_599 : Cond.code yX0_copyFrom cX0_copyFrom 3 none ∈ lw_all := lw_in (i := 629) (by decide +kernel) rfl
theorem wm_600 : Cond.code yX0_isLike cX0_isLike 3 (some .boolean) ∈ lw_all := lw_in (i := 594) (by decide +kernel) rfl
theorem wm_601 : Cond.code yX0_countShared cX0_countShared 6 (some .int) ∈ lw_all := lw_in (i := 854) (by decide +kernel) rfl
theorem wm_602 : Cond.code yX1_init cX1_init 1 none ∈ lw_all := lw_in (i := 208) (by decide +kernel) rfl
theorem wm_603 : Cond.code yX1_codeAt cX1_codeAt 2 (some .int) ∈ lw_all := lw_in (i := 456) (by decide +kernel) rfl
theorem wm_604 : Cond.code yX1_putLast cX1_putLast 2 (some .int) ∈ lw_all := lw_in (i := 867) (by decide +kernel) rfl
theorem wm_605 : Cond.code yX1_forget cX1_forget 2 (some .int) ∈ lw_all := lw_in (i := 440) (by decide +kernel) rfl
theorem wm_606 : Cond.code yX1_findError cX1_findError 2 (some .int) ∈ lw_all := lw_in (i := 448) (by decide +kernel) rfl
theorem wm_607 : Cond.code yX1_isComplete cX1_isComplete 1 (some .boolean) ∈ lw_all := lw_in (i := 879) (by decide +kernel) rfl
theorem wm_608 : Cond.code yX1_beginReading cX1_beginReading 1 none ∈ lw_all := lw_in (i := 452) (by decide +kernel) rfl
theorem wm_609 : Cond.code yX1_commandIsWhole cX1_commandIsWhole 1 (some .boolean) ∈ lw_all := lw_in (i := 465) (by decide +kernel) rfl
theorem wm_610 : Cond.code yX1_take cX1_take 2 (some .boolean) ∈ lw_all := lw_in (i := 461) (by decide +kernel) rfl
theorem wm_611 : Cond.code yX1_takeDraft cX1_takeDraft 2 (some .boolean) ∈ lw_all := lw_in (i := 469) (by decide +kernel) rfl
theorem wm_612 : Cond.code yX1_takeKind cX1_takeKind 2 (some .boolean) ∈ lw_all := lw_in (i := 473) (by decide +kernel) rfl
theorem wm_613 : Cond.code yX1_takeFirst cX1_takeFirst 3 (some .boolean) ∈ lw_all := lw_in (i := 484) (by decide +kernel) rfl
theorem wm_614 : Cond.code yX1_takeSecond cX1_takeSecond 3 (some .boolean) ∈ lw_all := lw_in (i := 477) (by decide +kernel) rfl
theorem wm_615 : Cond.code yX1_withDigit cX1_withDigit 4 (some .int) ∈ lw_all := lw_in (i := 480) (by decide +kernel) rfl
theorem wm_616 : Cond.code yX2_init cX2_init 1 none ∈ lw_all := lw_in (i := 166) (by decide +kernel) rfl
theorem wm_617 : Cond.code yX2_of cX2_of 2 (some .int) ∈ lw_all := lw_in (i := 315) (by decide +kernel) rfl
theorem wm_618 : Cond.code yX2_edits cX2_edits 2 (some .boolean) ∈ lw_all := lw_in (i := 340) (by decide +kernel) rfl
theorem wm_619 : Cond.code yX2_moved cX2_moved 2 (some .boolean) ∈ lw_all := lw_in (i := 370) (by decide +kernel) rfl
theorem wm_620 : Cond.code yX2_removes cX2_removes 2 (some .boolean) ∈ lw_all := lw_in (i := 327) (by decide +kernel) rfl
theorem wm_621 : Cond.code yX2_countMoved cX2_countMoved 4 (some .int) ∈ lw_all := lw_in (i := 775) (by decide +kernel) rfl
theorem wm_622 : Cond.code yX2_compare cX2_compare 4 none ∈ lw_all := lw_in (i := 265) (by decide +kernel) rfl
theorem wm_623 : Cond.code yX2_changeUnlessKept cX2_changeUnlessKept 4 (some .int) ∈ lw_all := lw_in (i := 268) (by decide +kernel) rfl
theorem wm_624 : Cond.code yX2_measureAscending cX2_measureAscending 6 (some .int) ∈ lw_all := lw_in (i := 294) (by decide +kernel) rfl
theorem wm_625 : Cond.code yX2_lengthFrom cX2_lengthFrom 7 (some .int) ∈ lw_all := lw_in (i := 298) (by decide +kernel) rfl
theorem wm_626 : Cond.code yX2_markKept cX2_markKept 8 none ∈ lw_all := lw_in (i := 307) (by decide +kernel) rfl
theorem wm_627 : Cond.code yX2_leastStart cX2_leastStart 8 (some .int) ∈ lw_all := lw_in (i := 311) (by decide +kernel) rfl
theorem wm_628 : Cond.code yX3_init cX3_init 2 none ∈ lw_all := lw_in (i := 138) (by decide +kernel) rfl
theorem wm_629 : Cond.code yX3_keep cX3_keep 2 none ∈ lw_all := lw_in (i := 614) (by decide +kernel) rfl
theorem wm_630 : Cond.code yX3_restoreLast cX3_restoreLast 2 (some .int) ∈ lw_all := lw_in (i := 904) (by decide +kernel) rfl
theorem wm_631 : Cond.code yX3_slot cX3_slot 2 (some (.object "DraftMerge$State")) ∈ lw_all := lw_in (i := 618) (by decide +kernel) rfl
theorem wm_632 : Cond.code yX3_copy cX3_copy 2 none ∈ lw_all := lw_in (i := 621) (by decide +kernel) rfl
theorem wm_633 : Cond.code yX4_init cX4_init 1 none ∈ lw_all := lw_in (i := 158) (by decide +kernel) rfl
theorem wm_634 : Cond.code yX4_changesOf cX4_changesOf 2 (some (.object "DraftMerge$DraftChanges")) ∈ lw_all := lw_in (i := 336) (by decide +kernel) rfl
theorem wm_635 : Cond.code yX4_hasConflict cX4_hasConflict 2 (some .boolean) ∈ lw_all := lw_in (i := 802) (by decide +kernel) rfl
theorem wm_636 : Cond.code yX4_blockOfConflict cX4_blockOfConflict 2 (some .int) ∈ lw_all := lw_in (i := 423) (by decide +kernel) rfl
theorem wm_637 : Cond.code yX4_kindOfConflict cX4_kindOfConflict 2 (some .int) ∈ lw_all := lw_in (i := 427) (by decide +kernel) rfl
theorem wm_638 : Cond.code yX4_countOpen cX4_countOpen 4 (some .int) ∈ lw_all := lw_in (i := 419) (by decide +kernel) rfl
theorem wm_639 : Cond.code yX4_make cX4_make 3 none ∈ lw_all := lw_in (i := 261) (by decide +kernel) rfl
theorem wm_640 : Cond.code yX4_decide cX4_decide 5 none ∈ lw_all := lw_in (i := 323) (by decide +kernel) rfl
theorem wm_641 : Cond.code yX4_decideRemoved cX4_decideRemoved 5 none ∈ lw_all := lw_in (i := 332) (by decide +kernel) rfl
theorem wm_642 : Cond.code yX4_contentFromBoth cX4_contentFromBoth 5 (some .int) ∈ lw_all := lw_in (i := 374) (by decide +kernel) rfl
theorem wm_643 : Cond.code yX4_placeFromBoth cX4_placeFromBoth 5 (some .int) ∈ lw_all := lw_in (i := 378) (by decide +kernel) rfl
theorem wm_644 : Cond.code yX4_numberBefore cX4_numberBefore 2 (some .int) ∈ lw_all := lw_in (i := 381) (by decide +kernel) rfl
theorem wm_645 : Cond.code yX4_addConflict cX4_addConflict 3 none ∈ lw_all := lw_in (i := 344) (by decide +kernel) rfl
theorem wm_646 : Cond.code yX4_putBlocksOf cX4_putBlocksOf 6 none ∈ lw_all := lw_in (i := 401) (by decide +kernel) rfl
theorem wm_647 : Cond.code yX4_placeBehind cX4_placeBehind 5 (some .int) ∈ lw_all := lw_in (i := 405) (by decide +kernel) rfl
theorem wm_648 : Cond.code yX5_init cX5_init 1 none ∈ lw_all := lw_in (i := 77) (by decide +kernel) rfl
theorem wm_649 : Cond.code yX5_draft cX5_draft 2 (some (.object "DraftMerge$Blocks")) ∈ lw_all := lw_in (i := 360) (by decide +kernel) rfl
theorem wm_650 : Cond.code yX5_baseCanGrow cX5_baseCanGrow 1 (some .boolean) ∈ lw_all := lw_in (i := 589) (by decide +kernel) rfl
theorem wm_651 : Cond.code yX5_growBase cX5_growBase 3 (some .int) ∈ lw_all := lw_in (i := 637) (by decide +kernel) rfl
theorem wm_652 : Cond.code yX5_putNewBlock cX5_putNewBlock 5 (some .int) ∈ lw_all := lw_in (i := 719) (by decide +kernel) rfl
theorem wm_653 : Cond.code yX5_takeNumber cX5_takeNumber 2 (some .int) ∈ lw_all := lw_in (i := 641) (by decide +kernel) rfl
theorem wm_654 : Cond.code yX5_choice cX5_choice 3 (some .int) ∈ lw_all := lw_in (i := 352) (by decide +kernel) rfl
theorem wm_655 : Cond.code yX5_choiceOrPreferred cX5_choiceOrPreferred 4 (some .int) ∈ lw_all := lw_in (i := 348) (by decide +kernel) rfl
theorem wm_656 : Cond.code yX5_setChoice cX5_setChoice 5 (some .int) ∈ lw_all := lw_in (i := 822) (by decide +kernel) rfl
theorem wm_657 : Cond.code yX5_choiceIndex cX5_choiceIndex 2 (some .int) ∈ lw_all := lw_in (i := 355) (by decide +kernel) rfl
theorem wm_658 : Cond.code yX5_takeAsBase cX5_takeAsBase 3 none ∈ lw_all := lw_in (i := 841) (by decide +kernel) rfl
theorem wm_659 : Cond.code yX5_copyFrom cX5_copyFrom 3 none ∈ lw_all := lw_in (i := 625) (by decide +kernel) rfl
theorem wm_660 : Cond.initialized RX6 ∈ lw_all := lw_in (i := 49) (by decide +kernel) rfl
theorem wm_661 : Cond.code yX6_init cX6_init 1 none ∈ lw_all := lw_in (i := 69) (by decide +kernel) rfl
theorem wm_662 : Cond.code yX6_addBase cX6_addBase 2 (some .int) ∈ lw_all := lw_in (i := 514) (by decide +kernel) rfl
theorem wm_663 : Cond.code yX6_edit cX6_edit 5 (some .int) ∈ lw_all := lw_in (i := 650) (by decide +kernel) rfl
theorem wm_664 : Cond.code yX6_move cX6_move 4 (some .int) ∈ lw_all := lw_in (i := 690) (by decide +kernel) rfl
theorem wm_665 : Cond.code yX6_insert cX6_insert 5 (some .int) ∈ lw_all := lw_in (i := 709) (by decide +kernel) rfl
theorem wm_666 : Cond.code yX6_remove cX6_remove 3 (some .int) ∈ lw_all := lw_in (i := 728) (by decide +kernel) rfl
theorem wm_667 : Cond.code yX6_baseSize cX6_baseSize 1 (some .int) ∈ lw_all := lw_in (i := 253) (by decide +kernel) rfl
theorem wm_668 : Cond.code yX6_size cX6_size 2 (some .int) ∈ lw_all := lw_in (i := 740) (by decide +kernel) rfl
theorem wm_669 : Cond.code yX6_block cX6_block 3 (some .int) ∈ lw_all := lw_in (i := 748) (by decide +kernel) rfl
theorem wm_670 : Cond.code yX6_content cX6_content 3 (some .int) ∈ lw_all := lw_in (i := 755) (by decide +kernel) rfl
theorem wm_671 : Cond.code yX6_change cX6_change 3 (some .int) ∈ lw_all := lw_in (i := 762) (by decide +kernel) rfl
theorem wm_672 : Cond.code yX6_moves cX6_moves 2 (some .int) ∈ lw_all := lw_in (i := 771) (by decide +kernel) rfl
theorem wm_673 : Cond.code yX6_mergedSize cX6_mergedSize 1 (some .int) ∈ lw_all := lw_in (i := 257) (by decide +kernel) rfl
theorem wm_674 : Cond.code yX6_mergedBlock cX6_mergedBlock 2 (some .int) ∈ lw_all := lw_in (i := 783) (by decide +kernel) rfl
theorem wm_675 : Cond.code yX6_mergedContent cX6_mergedContent 2 (some .int) ∈ lw_all := lw_in (i := 791) (by decide +kernel) rfl
theorem wm_676 : Cond.code yX6_conflicts cX6_conflicts 1 (some .int) ∈ lw_all := lw_in (i := 411) (by decide +kernel) rfl
theorem wm_677 : Cond.code yX6_conflictBlock cX6_conflictBlock 2 (some .int) ∈ lw_all := lw_in (i := 798) (by decide +kernel) rfl
theorem wm_678 : Cond.code yX6_conflictKind cX6_conflictKind 2 (some .int) ∈ lw_all := lw_in (i := 810) (by decide +kernel) rfl
theorem wm_679 : Cond.code yX6_choose cX6_choose 3 (some .int) ∈ lw_all := lw_in (i := 817) (by decide +kernel) rfl
theorem wm_680 : Cond.code yX6_prefer cX6_prefer 3 (some .int) ∈ lw_all := lw_in (i := 829) (by decide +kernel) rfl
theorem wm_681 : Cond.code yX6_open cX6_open 1 (some .int) ∈ lw_all := lw_in (i := 415) (by decide +kernel) rfl
theorem wm_682 : Cond.code yX6_accept cX6_accept 1 (some .int) ∈ lw_all := lw_in (i := 836) (by decide +kernel) rfl
theorem wm_683 : Cond.code yX6_accepted cX6_accepted 1 (some .int) ∈ lw_all := lw_in (i := 432) (by decide +kernel) rfl
theorem wm_684 : Cond.code yX6_similarity cX6_similarity 4 (some .double) ∈ lw_all := lw_in (i := 850) (by decide +kernel) rfl
theorem wm_685 : Cond.code yX6_append cX6_append 2 (some .int) ∈ lw_all := lw_in (i := 861) (by decide +kernel) rfl
theorem wm_686 : Cond.code yX6_clearText cX6_clearText 1 (some .int) ∈ lw_all := lw_in (i := 436) (by decide +kernel) rfl
theorem wm_687 : Cond.code yX6_firstError cX6_firstError 1 (some .int) ∈ lw_all := lw_in (i := 444) (by decide +kernel) rfl
theorem wm_688 : Cond.code yX6_run cX6_run 2 (some .int) ∈ lw_all := lw_in (i := 875) (by decide +kernel) rfl
theorem wm_689 : Cond.code yX6_undo cX6_undo 1 (some .int) ∈ lw_all := lw_in (i := 899) (by decide +kernel) rfl
theorem wm_690 : Cond.code yX6_savedStates cX6_savedStates 1 (some .int) ∈ lw_all := lw_in (i := 488) (by decide +kernel) rfl
theorem wm_691 : Cond.code yX6_digest cX6_digest 4 (some .long) ∈ lw_all := lw_in (i := 492) (by decide +kernel) rfl
theorem wm_692 : Cond.code yX6_mixedWithBlocks cX6_mixedWithBlocks 6 (some .long) ∈ lw_all := lw_in (i := 500) (by decide +kernel) rfl
theorem wm_693 : Cond.code yX6_mixed cX6_mixed 3 (some .long) ∈ lw_all := lw_in (i := 496) (by decide +kernel) rfl
theorem wm_694 : Cond.code yX6_isDraft cX6_isDraft 1 (some .boolean) ∈ lw_all := lw_in (i := 661) (by decide +kernel) rfl
theorem wm_695 : Cond.code yX6_isContent cX6_isContent 1 (some .boolean) ∈ lw_all := lw_in (i := 517) (by decide +kernel) rfl
theorem wm_696 : Cond.code yX6_hasPosition cX6_hasPosition 3 (some .boolean) ∈ lw_all := lw_in (i := 658) (by decide +kernel) rfl
theorem wm_697 : Cond.code yX6_editFault cX6_editFault 4 (some .int) ∈ lw_all := lw_in (i := 654) (by decide +kernel) rfl
theorem wm_698 : Cond.code yX6_moveFault cX6_moveFault 4 (some .int) ∈ lw_all := lw_in (i := 694) (by decide +kernel) rfl
theorem wm_699 : Cond.code yX6_insertFault cX6_insertFault 4 (some .int) ∈ lw_all := lw_in (i := 713) (by decide +kernel) rfl
theorem wm_700 : Cond.code yX6_removeFault cX6_removeFault 3 (some .int) ∈ lw_all := lw_in (i := 732) (by decide +kernel) rfl
theorem wm_701 : Cond.code yX6_executeText cX6_executeText 4 (some .int) ∈ lw_all := lw_in (i := 885) (by decide +kernel) rfl
theorem wm_702 : Cond.code yX6_executeCommand cX6_executeCommand 4 (some .boolean) ∈ lw_all := lw_in (i := 891) (by decide +kernel) rfl
theorem wm_703 : Cond.code yX6_cell cX6_cell 2 (some .int) ∈ lw_all := lw_in (i := 283) (by decide +kernel) rfl
theorem wm_704 : Cond.code yX6_setCell cX6_setCell 3 none ∈ lw_all := lw_in (i := 290) (by decide +kernel) rfl
theorem wm_705 : Cond.initialized RX7 ∈ lw_all := lw_in (i := 57) (by decide +kernel) rfl
theorem wm_706 : Cond.code yX7_init cX7_init 1 none ∈ lw_all := lw_in (i := 909) (by decide +kernel) rfl
theorem wm_707 : Cond.code yX7_thrown cX7_thrown 1 (some .int) ∈ lw_all := lw_in (i := 982) (by decide +kernel) rfl
theorem wm_708 : Cond.code yX7_refused cX7_refused 2 (some .boolean) ∈ lw_all := lw_in (i := 1012) (by decide +kernel) rfl
theorem wm_709 : Cond.code yX7_in cX7_in 3 (some .boolean) ∈ lw_all := lw_in (i := 989) (by decide +kernel) rfl
theorem wm_710 : Cond.code yX7_saves cX7_saves 2 none ∈ lw_all := lw_in (i := 1016) (by decide +kernel) rfl
theorem wm_711 : Cond.code yX7_isDraft cX7_isDraft 1 (some .boolean) ∈ lw_all := lw_in (i := 1035) (by decide +kernel) rfl
theorem wm_712 : Cond.code yX7_at cX7_at 2 (some .int) ∈ lw_all := lw_in (i := 1000) (by decide +kernel) rfl
theorem wm_713 : Cond.code yX7_sizeOf cX7_sizeOf 2 (some .int) ∈ lw_all := lw_in (i := 997) (by decide +kernel) rfl
theorem wm_714 : Cond.code yX7_numberAt cX7_numberAt 3 (some .int) ∈ lw_all := lw_in (i := 1004) (by decide +kernel) rfl
theorem wm_715 : Cond.code yX7_insideAt cX7_insideAt 3 (some .int) ∈ lw_all := lw_in (i := 1008) (by decide +kernel) rfl
theorem wm_716 : Cond.code yX7_isThere cX7_isThere 3 (some .boolean) ∈ lw_all := lw_in (i := 1032) (by decide +kernel) rfl
theorem wm_717 : Cond.code yX7_placeOf cX7_placeOf 4 (some .int) ∈ lw_all := lw_in (i := 1115) (by decide +kernel) rfl
theorem wm_718 : Cond.code yX7_has cX7_has 3 (some .boolean) ∈ lw_all := lw_in (i := 1111) (by decide +kernel) rfl
theorem wm_719 : Cond.code yX7_contentIn cX7_contentIn 3 (some .int) ∈ lw_all := lw_in (i := 1123) (by decide +kernel) rfl
theorem wm_720 : Cond.code yX7_doesEdit cX7_doesEdit 3 (some .boolean) ∈ lw_all := lw_in (i := 1119) (by decide +kernel) rfl
theorem wm_721 : Cond.code yX7_puts cX7_puts 6 none ∈ lw_all := lw_in (i := 1020) (by decide +kernel) rfl
theorem wm_722 : Cond.code yX7_takes cX7_takes 4 none ∈ lw_all := lw_in (i := 1055) (by decide +kernel) rfl
theorem wm_723 : Cond.code yX7_isChanged cX7_isChanged 4 (some .boolean) ∈ lw_all := lw_in (i := 993) (by decide +kernel) rfl
theorem wm_724 : Cond.code yX7_addBase cX7_addBase 3 (some .int) ∈ lw_all := lw_in (i := 986) (by decide +kernel) rfl
theorem wm_725 : Cond.code yX7_barEdit cX7_barEdit 4 (some .int) ∈ lw_all := lw_in (i := 1028) (by decide +kernel) rfl
theorem wm_726 : Cond.code yX7_barMove cX7_barMove 4 (some .int) ∈ lw_all := lw_in (i := 1047) (by decide +kernel) rfl
theorem wm_727 : Cond.code yX7_barInsert cX7_barInsert 4 (some .int) ∈ lw_all := lw_in (i := 1063) (by decide +kernel) rfl
theorem wm_728 : Cond.code yX7_barRemove cX7_barRemove 3 (some .int) ∈ lw_all := lw_in (i := 1075) (by decide +kernel) rfl
theorem wm_729 : Cond.code yX7_edits cX7_edits 5 (some .int) ∈ lw_all := lw_in (i := 1039) (by decide +kernel) rfl
theorem wm_730 : Cond.code yX7_shifts cX7_shifts 6 (some .int) ∈ lw_all := lw_in (i := 1051) (by decide +kernel) rfl
theorem wm_731 : Cond.code yX7_inserts cX7_inserts 5 (some .int) ∈ lw_all := lw_in (i := 1067) (by decide +kernel) rfl
theorem wm_732 : Cond.code yX7_removes cX7_removes 4 (some .int) ∈ lw_all := lw_in (i := 1079) (by decide +kernel) rfl
theorem wm_733 : Cond.code yX7_edit cX7_edit 4 (some .int) ∈ lw_all := lw_in (i := 1024) (by decide +kernel) rfl
theorem wm_734 : Cond.code yX7_move cX7_move 4 (some .int) ∈ lw_all := lw_in (i := 1043) (by decide +kernel) rfl
theorem wm_735 : Cond.code yX7_insert cX7_insert 4 (some .int) ∈ lw_all := lw_in (i := 1059) (by decide +kernel) rfl
theorem wm_736 : Cond.code yX7_remove cX7_remove 3 (some .int) ∈ lw_all := lw_in (i := 1071) (by decide +kernel) rfl
theorem wm_737 : Cond.code yX7_baseSize cX7_baseSize 1 (some .int) ∈ lw_all := lw_in (i := 1083) (by decide +kernel) rfl
theorem wm_738 : Cond.code yX7_size cX7_size 2 (some .int) ∈ lw_all := lw_in (i := 1087) (by decide +kernel) rfl
theorem wm_739 : Cond.code yX7_block cX7_block 3 (some .int) ∈ lw_all := lw_in (i := 1091) (by decide +kernel) rfl
theorem wm_740 : Cond.code yX7_content cX7_content 3 (some .int) ∈ lw_all := lw_in (i := 1095) (by decide +kernel) rfl
theorem wm_741 : Cond.code yX7_keeps cX7_keeps 9 none ∈ lw_all := lw_in (i := 1103) (by decide +kernel) rfl
theorem wm_742 : Cond.code yX7_doesMove cX7_doesMove 3 (some .boolean) ∈ lw_all := lw_in (i := 1127) (by decide +kernel) rfl
theorem wm_743 : Cond.code yX7_changeOf cX7_changeOf 3 (some .int) ∈ lw_all := lw_in (i := 1107) (by decide +kernel) rfl
theorem wm_744 : Cond.code yX7_change cX7_change 3 (some .int) ∈ lw_all := lw_in (i := 1099) (by decide +kernel) rfl
theorem wm_745 : Cond.code yX7_moves cX7_moves 4 (some .int) ∈ lw_all := lw_in (i := 1131) (by decide +kernel) rfl
theorem wm_746 : Cond.code yX7_chosen cX7_chosen 4 (some .int) ∈ lw_all := lw_in (i := 1147) (by decide +kernel) rfl
theorem wm_747 : Cond.code yX7_ahead cX7_ahead 4 (some .int) ∈ lw_all := lw_in (i := 1151) (by decide +kernel) rfl
theorem wm_748 : Cond.code yX7_judges cX7_judges 5 none ∈ lw_all := lw_in (i := 1143) (by decide +kernel) rfl
theorem wm_749 : Cond.code yX7_mergedAt cX7_mergedAt 4 (some .int) ∈ lw_all := lw_in (i := 1163) (by decide +kernel) rfl
theorem wm_750 : Cond.code yX7_lays cX7_lays 5 none ∈ lw_all := lw_in (i := 1155) (by decide +kernel) rfl
theorem wm_751 : Cond.code yX7_laysOf cX7_laysOf 7 none ∈ lw_all := lw_in (i := 1159) (by decide +kernel) rfl
theorem wm_752 : Cond.code yX7_merges cX7_merges 2 none ∈ lw_all := lw_in (i := 1139) (by decide +kernel) rfl
theorem wm_753 : Cond.code yX7_mergedSize cX7_mergedSize 1 (some .int) ∈ lw_all := lw_in (i := 1135) (by decide +kernel) rfl
theorem wm_754 : Cond.code yX7_mergedBlock cX7_mergedBlock 2 (some .int) ∈ lw_all := lw_in (i := 1167) (by decide +kernel) rfl
theorem wm_755 : Cond.code yX7_mergedContent cX7_mergedContent 2 (some .int) ∈ lw_all := lw_in (i := 1171) (by decide +kernel) rfl
theorem wm_756 : Cond.code yX7_conflicts cX7_conflicts 1 (some .int) ∈ lw_all := lw_in (i := 1175) (by decide +kernel) rfl
theorem wm_757 : Cond.code yX7_conflictBlock cX7_conflictBlock 2 (some .int) ∈ lw_all := lw_in (i := 1179) (by decide +kernel) rfl
theorem wm_758 : Cond.code yX7_conflictKind cX7_conflictKind 2 (some .int) ∈ lw_all := lw_in (i := 1183) (by decide +kernel) rfl
theorem wm_759 : Cond.code yX7_choose cX7_choose 5 (some .int) ∈ lw_all := lw_in (i := 1187) (by decide +kernel) rfl
theorem wm_760 : Cond.code yX7_prefer cX7_prefer 3 (some .int) ∈ lw_all := lw_in (i := 1191) (by decide +kernel) rfl
theorem wm_761 : Cond.code yX7_openOnes cX7_openOnes 3 (some .int) ∈ lw_all := lw_in (i := 1199) (by decide +kernel) rfl
theorem wm_762 : Cond.code yX7_open cX7_open 1 (some .int) ∈ lw_all := lw_in (i := 1195) (by decide +kernel) rfl
theorem wm_763 : Cond.code yX7_accept cX7_accept 3 (some .int) ∈ lw_all := lw_in (i := 1203) (by decide +kernel) rfl
theorem wm_764 : Cond.code yX7_accepted cX7_accepted 1 (some .int) ∈ lw_all := lw_in (i := 1207) (by decide +kernel) rfl
theorem wm_765 : Cond.code yX7_similarity cX7_similarity 6 (some .double) ∈ lw_all := lw_in (i := 1211) (by decide +kernel) rfl
theorem wm_766 : Cond.code yX7_append cX7_append 2 (some .int) ∈ lw_all := lw_in (i := 1215) (by decide +kernel) rfl
theorem wm_767 : Cond.code yX7_clearText cX7_clearText 2 (some .int) ∈ lw_all := lw_in (i := 1219) (by decide +kernel) rfl
theorem wm_768 : Cond.code yX7_next cX7_next 1 (some .int) ∈ lw_all := lw_in (i := 1239) (by decide +kernel) rfl
theorem wm_769 : Cond.code yX7_sign cX7_sign 2 none ∈ lw_all := lw_in (i := 1247) (by decide +kernel) rfl
theorem wm_770 : Cond.code yX7_digit cX7_digit 3 (some .int) ∈ lw_all := lw_in (i := 1235) (by decide +kernel) rfl
theorem wm_771 : Cond.code yX7_number cX7_number 4 (some .int) ∈ lw_all := lw_in (i := 1243) (by decide +kernel) rfl
theorem wm_772 : Cond.code yX7_command cX7_command 1 none ∈ lw_all := lw_in (i := 1231) (by decide +kernel) rfl
theorem wm_773 : Cond.code yX7_isWhole cX7_isWhole 2 (some .boolean) ∈ lw_all := lw_in (i := 1227) (by decide +kernel) rfl
theorem wm_774 : Cond.code yX7_firstError cX7_firstError 2 (some .int) ∈ lw_all := lw_in (i := 1223) (by decide +kernel) rfl
theorem wm_775 : Cond.code yX7_bars cX7_bars 1 (some .int) ∈ lw_all := lw_in (i := 1255) (by decide +kernel) rfl
theorem wm_776 : Cond.code yX7_does cX7_does 1 (some .int) ∈ lw_all := lw_in (i := 1259) (by decide +kernel) rfl
theorem wm_777 : Cond.code yX7_run cX7_run 4 (some .int) ∈ lw_all := lw_in (i := 1251) (by decide +kernel) rfl
theorem wm_778 : Cond.code yX7_undo cX7_undo 2 (some .int) ∈ lw_all := lw_in (i := 1263) (by decide +kernel) rfl
theorem wm_779 : Cond.code yX7_savedStates cX7_savedStates 1 (some .int) ∈ lw_all := lw_in (i := 1267) (by decide +kernel) rfl
theorem wm_780 : Cond.code yX7_digest cX7_digest 5 (some .long) ∈ lw_all := lw_in (i := 1271) (by decide +kernel) rfl
theorem wm_781 : Cond.initialized "java/util/Arrays" ∈ lw_all := lw_in (i := 52) (by decide +kernel) rfl
theorem wm_782 : Cond.code yJA_fill cJA_fill 4 none ∈ lw_all := lw_in (i := 102) (by decide +kernel) rfl
theorem wm_783 : Cond.initialized RL ∈ lw_all := lw_in (i := 48) (by decide +kernel) rfl
theorem wm_784 : Cond.codeWith yL_addBase cL_addBase 4 (some .int) [(0, 9, 12, 13), (0, 9, 15, 15)] ∈ lw_all := lw_in (i := 508) (by decide +kernel) rfl
theorem wm_785 : Cond.codeWith yL_edit cL_edit 6 (some .int) [(0, 12, 15, 21), (0, 12, 19, 13)] ∈ lw_all := lw_in (i := 645) (by decide +kernel) rfl
theorem wm_786 : Cond.codeWith yL_move cL_move 6 (some .int) [(0, 12, 15, 21)] ∈ lw_all := lw_in (i := 686) (by decide +kernel) rfl
theorem wm_787 : Cond.codeWith yL_insert cL_insert 6 (some .int) [(0, 12, 15, 21), (0, 12, 19, 13), (0, 12, 23, 15)] ∈ lw_all := lw_in (i := 705) (by decide +kernel) rfl
theorem wm_788 : Cond.codeWith yL_remove cL_remove 5 (some .int) [(0, 10, 13, 21)] ∈ lw_all := lw_in (i := 724) (by decide +kernel) rfl
theorem wm_789 : Cond.codeWith yL_size cL_size 4 (some .int) [(0, 9, 12, 21)] ∈ lw_all := lw_in (i := 736) (by decide +kernel) rfl
theorem wm_790 : Cond.codeWith yL_block cL_block 5 (some .int) [(0, 10, 13, 21)] ∈ lw_all := lw_in (i := 744) (by decide +kernel) rfl
theorem wm_791 : Cond.codeWith yL_content cL_content 5 (some .int) [(0, 10, 13, 21)] ∈ lw_all := lw_in (i := 751) (by decide +kernel) rfl
theorem wm_792 : Cond.codeWith yL_change cL_change 5 (some .int) [(0, 10, 13, 21)] ∈ lw_all := lw_in (i := 758) (by decide +kernel) rfl
theorem wm_793 : Cond.codeWith yL_moves cL_moves 4 (some .int) [(0, 9, 12, 21)] ∈ lw_all := lw_in (i := 767) (by decide +kernel) rfl
theorem wm_794 : Cond.codeWith yL_mergedBlock cL_mergedBlock 4 (some .int) [(0, 9, 12, 21)] ∈ lw_all := lw_in (i := 779) (by decide +kernel) rfl
theorem wm_795 : Cond.codeWith yL_mergedContent cL_mergedContent 4 (some .int) [(0, 9, 12, 21)] ∈ lw_all := lw_in (i := 787) (by decide +kernel) rfl
theorem wm_796 : Cond.codeWith yL_conflictBlock cL_conflictBlock 4 (some .int) [(0, 9, 12, 21)] ∈ lw_all := lw_in (i := 794) (by decide +kernel) rfl
theorem wm_797 : Cond.codeWith yL_conflictKind cL_conflictKind 4 (some .int) [(0, 9, 12, 21)] ∈ lw_all := lw_in (i := 806) (by decide +kernel) rfl
theorem wm_798 : Cond.codeWith yL_choose cL_choose 5 (some .int) [(0, 10, 13, 21), (0, 10, 17, 13)] ∈ lw_all := lw_in (i := 813) (by decide +kernel) rfl
theorem wm_799 : Cond.codeWith yL_prefer cL_prefer 4 (some .int) [(0, 9, 12, 21)] ∈ lw_all := lw_in (i := 825) (by decide +kernel) rfl
theorem wm_800 : Cond.codeWith yL_accept cL_accept 3 (some .int) [(0, 8, 11, 15)] ∈ lw_all := lw_in (i := 832) (by decide +kernel) rfl
theorem wm_801 : Cond.codeWith yL_similarity cL_similarity 4 (some .int) [(0, 8, 11, 21)] ∈ lw_all := lw_in (i := 846) (by decide +kernel) rfl
theorem wm_802 : Cond.codeWith yL_append cL_append 4 (some .int) [(0, 9, 12, 13), (0, 9, 15, 15)] ∈ lw_all := lw_in (i := 857) (by decide +kernel) rfl
theorem wm_803 : Cond.codeWith yL_run cL_run 3 (some .int) [(0, 8, 11, 13)] ∈ lw_all := lw_in (i := 871) (by decide +kernel) rfl
theorem wm_804 : Cond.codeWith yL_undo cL_undo 3 (some .int) [(0, 8, 11, 15)] ∈ lw_all := lw_in (i := 895) (by decide +kernel) rfl
theorem wm_805 : Cond.classLink RX6 41 "java/lang/IllegalArgumentException" ∈ lw_all := lw_in (i := 518) (by decide +kernel) rfl
theorem wm_806 : Cond.initialized "java/lang/IllegalArgumentException" ∈ lw_all := lw_in (i := 61) (by decide +kernel) rfl
theorem wm_807 : Cond.classLink RX6 52 "java/lang/IllegalStateException" ∈ lw_all := lw_in (i := 595) (by decide +kernel) rfl
theorem wm_808 : Cond.initialized "java/lang/IllegalStateException" ∈ lw_all := lw_in (i := 62) (by decide +kernel) rfl
theorem wm_809 : Cond.classLink RX6 69 "java/lang/IndexOutOfBoundsException" ∈ lw_all := lw_in (i := 664) (by decide +kernel) rfl
theorem wm_810 : Cond.initialized "java/lang/IndexOutOfBoundsException" ∈ lw_all := lw_in (i := 64) (by decide +kernel) rfl
theorem uX0_in : ∀ w ∈ u_ws RX0 TX0 3, w ∈ lw_all := fun w h => List.mem_filter.mpr ⟨(show ∀ w ∈ u_ws RX0 TX0 3, w ∈ lw_tbl by decide +kernel) w h, (show ∀ w ∈ u_ws RX0 TX0 3, goodWord w = true by decide +kernel) w h⟩
theorem uX1_in : ∀ w ∈ u_ws RX1 TX1 7, w ∈ lw_all := fun w h => List.mem_filter.mpr ⟨(show ∀ w ∈ u_ws RX1 TX1 7, w ∈ lw_tbl by decide +kernel) w h, (show ∀ w ∈ u_ws RX1 TX1 7, goodWord w = true by decide +kernel) w h⟩
theorem uX2_in : ∀ w ∈ u_ws RX2 TX2 2, w ∈ lw_all := fun w h => List.mem_filter.mpr ⟨(show ∀ w ∈ u_ws RX2 TX2 2, w ∈ lw_tbl by decide +kernel) w h, (show ∀ w ∈ u_ws RX2 TX2 2, goodWord w = true by decide +kernel) w h⟩
theorem uX3_in : ∀ w ∈ u_ws RX3 TX3 3, w ∈ lw_all := fun w h => List.mem_filter.mpr ⟨(show ∀ w ∈ u_ws RX3 TX3 3, w ∈ lw_tbl by decide +kernel) w h, (show ∀ w ∈ u_ws RX3 TX3 3, goodWord w = true by decide +kernel) w h⟩
theorem uX4_in : ∀ w ∈ u_ws RX4 TX4 8, w ∈ lw_all := fun w h => List.mem_filter.mpr ⟨(show ∀ w ∈ u_ws RX4 TX4 8, w ∈ lw_tbl by decide +kernel) w h, (show ∀ w ∈ u_ws RX4 TX4 8, goodWord w = true by decide +kernel) w h⟩
theorem uX5_in : ∀ w ∈ u_ws RX5 TX5 7, w ∈ lw_all := fun w h => List.mem_filter.mpr ⟨(show ∀ w ∈ u_ws RX5 TX5 7, w ∈ lw_tbl by decide +kernel) w h, (show ∀ w ∈ u_ws RX5 TX5 7, goodWord w = true by decide +kernel) w h⟩
theorem uX6_in : ∀ w ∈ u_ws RX6 TX6 4, w ∈ lw_all := fun w h => List.mem_filter.mpr ⟨(show ∀ w ∈ u_ws RX6 TX6 4, w ∈ lw_tbl by decide +kernel) w h, (show ∀ w ∈ u_ws RX6 TX6 4, goodWord w = true by decide +kernel) w h⟩
theorem uX7_in : ∀ w ∈ u_ws RX7 TX7 22, w ∈ lw_all := fun w h => List.mem_filter.mpr ⟨(show ∀ w ∈ u_ws RX7 TX7 22, w ∈ lw_tbl by decide +kernel) w h, (show ∀ w ∈ u_ws RX7 TX7 22, goodWord w = true by decide +kernel) w h⟩
