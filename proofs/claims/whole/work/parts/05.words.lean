set_option maxRecDepth 100000 in
theorem kw_0 : Cond.code yJ7_fill_53178 cJ7_fill_53178 4 none ∈ lw_g := lw_gin 604 rfl rfl
theorem kw_1 : Cond.initialized RJ7 ∈ lw_g := lw_gin 71 (by decide +kernel) (by decide +kernel)
theorem kw_2 : Cond.static yJ7_fill_53178 ∈ lw_g := lw_gin 603 (by decide +kernel) (by decide +kernel)
theorem kw_3 : Cond.constant RJ6 265 1431655765 ∈ lw_g := lw_gin 400 (by decide +kernel) (by decide +kernel)
theorem kw_4 : Cond.constant RJ6 266 858993459 ∈ lw_g := lw_gin 401 (by decide +kernel) (by decide +kernel)
theorem kw_5 : Cond.constant RJ6 267 252645135 ∈ lw_g := lw_gin 402 (by decide +kernel) (by decide +kernel)
set_option maxRecDepth 100000 in
theorem kw_6 : Cond.code yJ6_bitCount_0f7a4 cJ6_bitCount_0f7a4 1 (some .int) ∈ lw_g := lw_gin 399 rfl rfl
theorem kw_7 : Cond.initialized RJ6 ∈ lw_g := lw_gin 69 (by decide +kernel) (by decide +kernel)
theorem kw_8 : Cond.static yJ6_bitCount_0f7a4 ∈ lw_g := lw_gin 398 (by decide +kernel) (by decide +kernel)
set_option maxRecDepth 100000 in
theorem kw_9 : Cond.code yJ7_fill_d0a16 cJ7_fill_d0a16 5 none ∈ lw_g := lw_gin 731 rfl rfl
theorem kw_10 : Cond.static yJ7_fill_d0a16 ∈ lw_g := lw_gin 730 (by decide +kernel) (by decide +kernel)
set_option maxRecDepth 100000 in
theorem kw_11 : Cond.code yX2_isDead cX2_isDead 1 (some .boolean) ∈ lw_g := lw_gin 294 rfl rfl
theorem kw_12 : Cond.initialized RX2 ∈ lw_g := lw_gin 67 (by decide +kernel) (by decide +kernel)
theorem kw_13 : Cond.static yX2_isDead ∈ lw_g := lw_gin 293 (by decide +kernel) (by decide +kernel)
set_option maxRecDepth 100000 in
theorem kw_14 : Cond.code yX2_wireAt cX2_wireAt 2 (some .int) ∈ lw_g := lw_gin 297 rfl rfl
theorem kw_15 : Cond.static yX2_wireAt ∈ lw_g := lw_gin 296 (by decide +kernel) (by decide +kernel)
set_option maxRecDepth 100000 in
theorem kw_16 : Cond.code yX2_kindOf cX2_kindOf 1 (some .int) ∈ lw_g := lw_gin 291 rfl rfl
theorem kw_17 : Cond.static yX2_kindOf ∈ lw_g := lw_gin 290 (by decide +kernel) (by decide +kernel)
set_option maxRecDepth 100000 in
theorem kw_18 : Cond.code yX2_turnIf cX2_turnIf 3 (some .int) ∈ lw_g := lw_gin 318 rfl rfl
theorem kw_19 : Cond.static yX2_turnIf ∈ lw_g := lw_gin 317 (by decide +kernel) (by decide +kernel)
theorem kw_20 : Cond.methodLink RX2 28 yX2_turnIf ∈ lw_g := lw_gin 316 (by decide +kernel) (by decide +kernel)
set_option maxRecDepth 100000 in
theorem kw_21 : Cond.code yX2_change cX2_change 3 (some .int) ∈ lw_g := lw_gin 321 rfl rfl
theorem kw_22 : Cond.static yX2_change ∈ lw_g := lw_gin 320 (by decide +kernel) (by decide +kernel)
theorem kw_23 : Cond.methodLink RX2 17 yX2_isDead ∈ lw_g := lw_gin 313 (by decide +kernel) (by decide +kernel)
theorem kw_24 : Cond.methodLink RX2 21 yX2_wireAt ∈ lw_g := lw_gin 314 (by decide +kernel) (by decide +kernel)
theorem kw_25 : Cond.methodLink RX2 25 yX2_kindOf ∈ lw_g := lw_gin 315 (by decide +kernel) (by decide +kernel)
theorem kw_26 : Cond.methodLink RX2 32 yX2_change ∈ lw_g := lw_gin 319 (by decide +kernel) (by decide +kernel)
set_option maxRecDepth 100000 in
theorem kw_27 : Cond.code yX2_act cX2_act 5 (some .int) ∈ lw_g := lw_gin 312 rfl rfl
theorem kw_28 : Cond.static yX2_act ∈ lw_g := lw_gin 311 (by decide +kernel) (by decide +kernel)
set_option maxRecDepth 100000 in
theorem kw_29 : Cond.code yX2_killed cX2_killed 1 (some .int) ∈ lw_g := lw_gin 379 rfl rfl
theorem kw_30 : Cond.static yX2_killed ∈ lw_g := lw_gin 378 (by decide +kernel) (by decide +kernel)
set_option maxRecDepth 100000 in
theorem kw_31 : Cond.code yX2_wiresOf cX2_wiresOf 1 (some .int) ∈ lw_g := lw_gin 270 rfl rfl
theorem kw_32 : Cond.static yX2_wiresOf ∈ lw_g := lw_gin 269 (by decide +kernel) (by decide +kernel)
theorem kw_33 : Cond.methodLink RX2 9 yX2_wiresOf ∈ lw_g := lw_gin 268 (by decide +kernel) (by decide +kernel)
set_option maxRecDepth 100000 in
theorem kw_34 : Cond.code yX2_areUnlike cX2_areUnlike 5 (some .boolean) ∈ lw_g := lw_gin 273 rfl rfl
theorem kw_35 : Cond.static yX2_areUnlike ∈ lw_g := lw_gin 272 (by decide +kernel) (by decide +kernel)
set_option maxRecDepth 100000 in
theorem kw_36 : Cond.code yX2_asKind cX2_asKind 2 (some .int) ∈ lw_g := lw_gin 708 rfl rfl
theorem kw_37 : Cond.static yX2_asKind ∈ lw_g := lw_gin 707 (by decide +kernel) (by decide +kernel)
set_option maxRecDepth 100000 in
theorem kw_38 : Cond.code yX2_pack cX2_pack 4 (some .int) ∈ lw_g := lw_gin 276 rfl rfl
theorem kw_39 : Cond.static yX2_pack ∈ lw_g := lw_gin 275 (by decide +kernel) (by decide +kernel)
set_option maxRecDepth 100000 in
theorem kw_40 : Cond.code yX2_healed cX2_healed 1 (some .int) ∈ lw_g := lw_gin 455 rfl rfl
theorem kw_41 : Cond.static yX2_healed ∈ lw_g := lw_gin 454 (by decide +kernel) (by decide +kernel)
set_option maxRecDepth 100000 in
theorem kw_42 : Cond.code yX2_kindNamed cX2_kindNamed 1 (some .int) ∈ lw_g := lw_gin 374 rfl rfl
theorem kw_43 : Cond.static yX2_kindNamed ∈ lw_g := lw_gin 373 (by decide +kernel) (by decide +kernel)
theorem kw_44 : Cond.methodLink RX2 13 yX2_areUnlike ∈ lw_g := lw_gin 271 (by decide +kernel) (by decide +kernel)
set_option maxRecDepth 100000 in
theorem kw_45 : Cond.code yX2_mayLie cX2_mayLie 6 (some .boolean) ∈ lw_g := lw_gin 267 rfl rfl
theorem kw_46 : Cond.static yX2_mayLie ∈ lw_g := lw_gin 266 (by decide +kernel) (by decide +kernel)
theorem kw_47 : Cond.fieldLink RX0 9 "MirrorWires$Board" "wires" "I" ∈ lw_g := lw_gin 92 (by decide +kernel) (by decide +kernel)
set_option maxRecDepth 100000 in
theorem kw_48 : Cond.code yX0_states cX0_states 1 (some .int) ∈ lw_g := lw_gin 309 rfl rfl
theorem kw_49 : Cond.initialized RX0 ∈ lw_g := lw_gin 62 (by decide +kernel) (by decide +kernel)
theorem kw_50 : Cond.instanceMethod yX0_states ∈ lw_g := lw_gin 307 (by decide +kernel) (by decide +kernel)
theorem kw_51 : Cond.selects RX0 yX0_states yX0_states ∈ lw_g := lw_gin 308 (by decide +kernel) (by decide +kernel)
theorem kw_52 : Cond.fieldLink RX0 22 "MirrorWires$Board" "count" "I" ∈ lw_g := lw_gin 96 (by decide +kernel) (by decide +kernel)
theorem kw_53 : Cond.fieldLink RX0 25 "MirrorWires$Board" "bits" "I" ∈ lw_g := lw_gin 103 (by decide +kernel) (by decide +kernel)
theorem kw_54 : Cond.fieldLink RX0 28 "MirrorWires$Board" "place" "I" ∈ lw_g := lw_gin 106 (by decide +kernel) (by decide +kernel)
set_option maxRecDepth 100000 in
theorem kw_55 : Cond.code yX0_clear cX0_clear 2 none ∈ lw_g := lw_gin 256 rfl rfl
theorem kw_56 : Cond.instanceMethod yX0_clear ∈ lw_g := lw_gin 254 (by decide +kernel) (by decide +kernel)
theorem kw_57 : Cond.selects RX0 yX0_clear yX0_clear ∈ lw_g := lw_gin 255 (by decide +kernel) (by decide +kernel)
theorem kw_58 : Cond.fieldLink RX0 15 "MirrorWires$Board" "gates" "[I" ∈ lw_g := lw_gin 100 (by decide +kernel) (by decide +kernel)
theorem kw_59 : Cond.methodLink RX0 31 arraycopyName ∈ lw_g := lw_gin 385 (by decide +kernel) (by decide +kernel)
theorem kw_60 : Cond.native arraycopyName ∈ lw_g := lw_gin 387 (by decide +kernel) (by decide +kernel)
theorem kw_61 : Cond.static arraycopyName ∈ lw_g := lw_gin 386 (by decide +kernel) (by decide +kernel)
theorem kw_62 : Cond.initialized "java/lang/System" ∈ lw_g := lw_gin 68 (by decide +kernel) (by decide +kernel)
theorem kw_63 : Cond.fieldLink RX0 19 "MirrorWires$Board" "draw" "I" ∈ lw_g := lw_gin 108 (by decide +kernel) (by decide +kernel)
set_option maxRecDepth 100000 in
theorem kw_64 : Cond.code yX0_becomes cX0_becomes 2 none ∈ lw_g := lw_gin 384 rfl rfl
theorem kw_65 : Cond.instanceMethod yX0_becomes ∈ lw_g := lw_gin 382 (by decide +kernel) (by decide +kernel)
theorem kw_66 : Cond.selects RX0 yX0_becomes yX0_becomes ∈ lw_g := lw_gin 383 (by decide +kernel) (by decide +kernel)
set_option maxRecDepth 100000 in
theorem kw_67 : Cond.code yX0_add cX0_add 2 none ∈ lw_g := lw_gin 280 rfl rfl
theorem kw_68 : Cond.instanceMethod yX0_add ∈ lw_g := lw_gin 278 (by decide +kernel) (by decide +kernel)
theorem kw_69 : Cond.selects RX0 yX0_add yX0_add ∈ lw_g := lw_gin 279 (by decide +kernel) (by decide +kernel)
theorem kw_70 : Cond.methodLink RX0 37 yX2_isDead ∈ lw_g := lw_gin 396 (by decide +kernel) (by decide +kernel)
set_option maxRecDepth 100000 in
theorem kw_71 : Cond.code yX0_deadOnes cX0_deadOnes 3 (some .int) ∈ lw_g := lw_gin 395 rfl rfl
theorem kw_72 : Cond.instanceMethod yX0_deadOnes ∈ lw_g := lw_gin 393 (by decide +kernel) (by decide +kernel)
theorem kw_73 : Cond.selects RX0 yX0_deadOnes yX0_deadOnes ∈ lw_g := lw_gin 394 (by decide +kernel) (by decide +kernel)
theorem kw_74 : Cond.methodLink RX0 43 yX2_act ∈ lw_g := lw_gin 419 (by decide +kernel) (by decide +kernel)
set_option maxRecDepth 100000 in
theorem kw_75 : Cond.code yX0_stepOn cX0_stepOn 1 none ∈ lw_g := lw_gin 418 rfl rfl
theorem kw_76 : Cond.instanceMethod yX0_stepOn ∈ lw_g := lw_gin 416 (by decide +kernel) (by decide +kernel)
theorem kw_77 : Cond.selects RX0 yX0_stepOn yX0_stepOn ∈ lw_g := lw_gin 417 (by decide +kernel) (by decide +kernel)
set_option maxRecDepth 100000 in
theorem kw_78 : Cond.code yX0_stepBack cX0_stepBack 1 none ∈ lw_g := lw_gin 427 rfl rfl
theorem kw_79 : Cond.instanceMethod yX0_stepBack ∈ lw_g := lw_gin 425 (by decide +kernel) (by decide +kernel)
theorem kw_80 : Cond.selects RX0 yX0_stepBack yX0_stepBack ∈ lw_g := lw_gin 426 (by decide +kernel) (by decide +kernel)
set_option maxRecDepth 100000 in
theorem kw_81 : Cond.code yX0_turnOver cX0_turnOver 2 none ∈ lw_g := lw_gin 443 rfl rfl
theorem kw_82 : Cond.instanceMethod yX0_turnOver ∈ lw_g := lw_gin 441 (by decide +kernel) (by decide +kernel)
theorem kw_83 : Cond.selects RX0 yX0_turnOver yX0_turnOver ∈ lw_g := lw_gin 442 (by decide +kernel) (by decide +kernel)
theorem kw_84 : Cond.methodLink RX0 58 yX0_stepOn ∈ lw_g := lw_gin 477 (by decide +kernel) (by decide +kernel)
theorem kw_85 : Cond.constantLong RX0 47 1103515245 ∈ lw_g := lw_gin 472 (by decide +kernel) (by decide +kernel)
theorem kw_86 : Cond.constantLong RX0 49 12345 ∈ lw_g := lw_gin 473 (by decide +kernel) (by decide +kernel)
theorem kw_87 : Cond.constantLong RX0 51 2147483647 ∈ lw_g := lw_gin 474 (by decide +kernel) (by decide +kernel)
theorem kw_88 : Cond.constant RX0 53 65536 ∈ lw_g := lw_gin 475 (by decide +kernel) (by decide +kernel)
theorem kw_89 : Cond.methodLink RX0 54 yX0_turnOver ∈ lw_g := lw_gin 476 (by decide +kernel) (by decide +kernel)
set_option maxRecDepth 100000 in
theorem kw_90 : Cond.code yX0_driftOn cX0_driftOn 1 none ∈ lw_g := lw_gin 471 rfl rfl
theorem kw_91 : Cond.instanceMethod yX0_driftOn ∈ lw_g := lw_gin 469 (by decide +kernel) (by decide +kernel)
theorem kw_92 : Cond.selects RX0 yX0_driftOn yX0_driftOn ∈ lw_g := lw_gin 470 (by decide +kernel) (by decide +kernel)
set_option maxRecDepth 100000 in
theorem kw_93 : Cond.code yX0_run cX0_run 4 (some .int) ∈ lw_g := lw_gin 497 rfl rfl
theorem kw_94 : Cond.instanceMethod yX0_run ∈ lw_g := lw_gin 495 (by decide +kernel) (by decide +kernel)
theorem kw_95 : Cond.selects RX0 yX0_run yX0_run ∈ lw_g := lw_gin 496 (by decide +kernel) (by decide +kernel)
set_option maxRecDepth 100000 in
theorem kw_96 : Cond.code yX0_runBack cX0_runBack 4 (some .int) ∈ lw_g := lw_gin 501 rfl rfl
theorem kw_97 : Cond.instanceMethod yX0_runBack ∈ lw_g := lw_gin 499 (by decide +kernel) (by decide +kernel)
theorem kw_98 : Cond.selects RX0 yX0_runBack yX0_runBack ∈ lw_g := lw_gin 500 (by decide +kernel) (by decide +kernel)
set_option maxRecDepth 100000 in
theorem kw_99 : Cond.code yX0_runWith cX0_runWith 6 (some .int) ∈ lw_g := lw_gin 695 rfl rfl
theorem kw_100 : Cond.instanceMethod yX0_runWith ∈ lw_g := lw_gin 693 (by decide +kernel) (by decide +kernel)
theorem kw_101 : Cond.selects RX0 yX0_runWith yX0_runWith ∈ lw_g := lw_gin 694 (by decide +kernel) (by decide +kernel)
theorem kw_102 : Cond.fieldLink RX4 15 "MirrorWires$Sheet" "there" "Z" ∈ lw_g := lw_gin 202 (by decide +kernel) (by decide +kernel)
theorem kw_103 : Cond.fieldLink RX4 19 "MirrorWires$Sheet" "lane" "I" ∈ lw_g := lw_gin 204 (by decide +kernel) (by decide +kernel)
theorem kw_104 : Cond.fieldLink RX4 23 "MirrorWires$Sheet" "size" "I" ∈ lw_g := lw_gin 206 (by decide +kernel) (by decide +kernel)
theorem kw_105 : Cond.fieldLink RX4 9 "MirrorWires$Sheet" "items" "[J" ∈ lw_g := lw_gin 208 (by decide +kernel) (by decide +kernel)
theorem kw_106 : Cond.methodLink RX4 26 yJ7_fill_d0a16 ∈ lw_g := lw_gin 729 (by decide +kernel) (by decide +kernel)
set_option maxRecDepth 100000 in
theorem kw_107 : Cond.code yX4_begin cX4_begin 3 none ∈ lw_g := lw_gin 728 rfl rfl
theorem kw_108 : Cond.initialized RX4 ∈ lw_g := lw_gin 65 (by decide +kernel) (by decide +kernel)
theorem kw_109 : Cond.instanceMethod yX4_begin ∈ lw_g := lw_gin 726 (by decide +kernel) (by decide +kernel)
theorem kw_110 : Cond.selects RX4 yX4_begin yX4_begin ∈ lw_g := lw_gin 727 (by decide +kernel) (by decide +kernel)
set_option maxRecDepth 100000 in
theorem kw_111 : Cond.code yX4_spans cX4_spans 3 (some .boolean) ∈ lw_g := lw_gin 682 rfl rfl
theorem kw_112 : Cond.instanceMethod yX4_spans ∈ lw_g := lw_gin 680 (by decide +kernel) (by decide +kernel)
theorem kw_113 : Cond.selects RX4 yX4_spans yX4_spans ∈ lw_g := lw_gin 681 (by decide +kernel) (by decide +kernel)
theorem kw_114 : Cond.methodLink RX4 32 yX4_spans ∈ lw_g := lw_gin 679 (by decide +kernel) (by decide +kernel)
set_option maxRecDepth 100000 in
theorem kw_115 : Cond.code yX4_faultOf cX4_faultOf 4 (some .int) ∈ lw_g := lw_gin 678 rfl rfl
theorem kw_116 : Cond.instanceMethod yX4_faultOf ∈ lw_g := lw_gin 676 (by decide +kernel) (by decide +kernel)
theorem kw_117 : Cond.selects RX4 yX4_faultOf yX4_faultOf ∈ lw_g := lw_gin 677 (by decide +kernel) (by decide +kernel)
set_option maxRecDepth 100000 in
theorem kw_118 : Cond.code yX4_cut cX4_cut 3 (some .long) ∈ lw_g := lw_gin 720 rfl rfl
theorem kw_119 : Cond.instanceMethod yX4_cut ∈ lw_g := lw_gin 719 (by decide +kernel) (by decide +kernel)
theorem kw_120 : Cond.selects RX4 yX4_cut yX4_cut ∈ lw_g := lw_gin 20 (by decide +kernel) (by decide +kernel)
theorem kw_121 : Cond.methodLink RX4 36 yX4_cut ∈ lw_g := lw_gin 717 (by decide +kernel) (by decide +kernel)
set_option maxRecDepth 100000 in
theorem kw_122 : Cond.code yX4_put cX4_put 4 none ∈ lw_g := lw_gin 716 rfl rfl
theorem kw_123 : Cond.instanceMethod yX4_put ∈ lw_g := lw_gin 714 (by decide +kernel) (by decide +kernel)
theorem kw_124 : Cond.selects RX4 yX4_put yX4_put ∈ lw_g := lw_gin 715 (by decide +kernel) (by decide +kernel)
theorem kw_125 : Cond.fieldLink RX3 11 "MirrorWires$Past" "boards" "[LMirrorWires$Board;" ∈ lw_g := lw_gin 163 (by decide +kernel) (by decide +kernel)
theorem kw_126 : Cond.fieldLink RX3 18 "MirrorWires$Past" "next" "I" ∈ lw_g := lw_gin 164 (by decide +kernel) (by decide +kernel)
theorem kw_127 : Cond.methodLink RX3 22 yX0_becomes ∈ lw_g := lw_gin 411 (by decide +kernel) (by decide +kernel)
theorem kw_128 : Cond.fieldLink RX3 26 "MirrorWires$Past" "known" "I" ∈ lw_g := lw_gin 165 (by decide +kernel) (by decide +kernel)
theorem kw_129 : Cond.methodLink RX3 29 Lib.Math.min.name ∈ lw_g := lw_gin 412 (by decide +kernel) (by decide +kernel)
theorem kw_130 : Cond.static Lib.Math.min.name ∈ lw_g := lw_gin 413 (by decide +kernel) (by decide +kernel)
theorem kw_131 : Cond.initialized "java/lang/Math" ∈ lw_g := lw_gin 70 (by decide +kernel) (by decide +kernel)
set_option maxRecDepth 100000 in
theorem kw_132 : Cond.code Lib.Math.min.name Lib.Math.min.code 2 (some .int) ∈ lw_g := lw_gin 414 rfl rfl
set_option maxRecDepth 100000 in
theorem kw_133 : Cond.code yX3_keep cX3_keep 2 none ∈ lw_g := lw_gin 410 rfl rfl
theorem kw_134 : Cond.initialized RX3 ∈ lw_g := lw_gin 63 (by decide +kernel) (by decide +kernel)
theorem kw_135 : Cond.instanceMethod yX3_keep ∈ lw_g := lw_gin 408 (by decide +kernel) (by decide +kernel)
theorem kw_136 : Cond.selects RX3 yX3_keep yX3_keep ∈ lw_g := lw_gin 409 (by decide +kernel) (by decide +kernel)
set_option maxRecDepth 100000 in
theorem kw_137 : Cond.code yX3_giveBack cX3_giveBack 2 (some .boolean) ∈ lw_g := lw_gin 485 rfl rfl
theorem kw_138 : Cond.instanceMethod yX3_giveBack ∈ lw_g := lw_gin 483 (by decide +kernel) (by decide +kernel)
theorem kw_139 : Cond.selects RX3 yX3_giveBack yX3_giveBack ∈ lw_g := lw_gin 484 (by decide +kernel) (by decide +kernel)
set_option maxRecDepth 100000 in
theorem kw_140 : Cond.code yX3_forget cX3_forget 1 none ∈ lw_g := lw_gin 260 rfl rfl
theorem kw_141 : Cond.instanceMethod yX3_forget ∈ lw_g := lw_gin 258 (by decide +kernel) (by decide +kernel)
theorem kw_142 : Cond.selects RX3 yX3_forget yX3_forget ∈ lw_g := lw_gin 259 (by decide +kernel) (by decide +kernel)
set_option maxRecDepth 100000 in
theorem kw_143 : Cond.code yX3_becomes cX3_becomes 3 none ∈ lw_g := lw_gin 656 rfl rfl
theorem kw_144 : Cond.instanceMethod yX3_becomes ∈ lw_g := lw_gin 654 (by decide +kernel) (by decide +kernel)
theorem kw_145 : Cond.selects RX3 yX3_becomes yX3_becomes ∈ lw_g := lw_gin 655 (by decide +kernel) (by decide +kernel)
theorem kw_146 : Cond.fieldLink RX5 15 "MirrorWires$Tape" "length" "I" ∈ lw_g := lw_gin 183 (by decide +kernel) (by decide +kernel)
theorem kw_147 : Cond.fieldLink RX5 9 "MirrorWires$Tape" "letters" "[C" ∈ lw_g := lw_gin 182 (by decide +kernel) (by decide +kernel)
set_option maxRecDepth 100000 in
theorem kw_148 : Cond.code yX5_add cX5_add 2 (some .boolean) ∈ lw_g := lw_gin 329 rfl rfl
theorem kw_149 : Cond.initialized RX5 ∈ lw_g := lw_gin 64 (by decide +kernel) (by decide +kernel)
theorem kw_150 : Cond.instanceMethod yX5_add ∈ lw_g := lw_gin 327 (by decide +kernel) (by decide +kernel)
theorem kw_151 : Cond.selects RX5 yX5_add yX5_add ∈ lw_g := lw_gin 328 (by decide +kernel) (by decide +kernel)
theorem kw_152 : Cond.fieldLink RX5 19 "MirrorWires$Tape" "at" "I" ∈ lw_g := lw_gin 185 (by decide +kernel) (by decide +kernel)
set_option maxRecDepth 100000 in
theorem kw_153 : Cond.code yX5_skipBlanks cX5_skipBlanks 1 none ∈ lw_g := lw_gin 345 rfl rfl
theorem kw_154 : Cond.instanceMethod yX5_skipBlanks ∈ lw_g := lw_gin 344 (by decide +kernel) (by decide +kernel)
theorem kw_155 : Cond.selects RX5 yX5_skipBlanks yX5_skipBlanks ∈ lw_g := lw_gin 3 (by decide +kernel) (by decide +kernel)
set_option maxRecDepth 100000 in
theorem kw_156 : Cond.code yX5_digitHere cX5_digitHere 1 (some .int) ∈ lw_g := lw_gin 349 rfl rfl
theorem kw_157 : Cond.instanceMethod yX5_digitHere ∈ lw_g := lw_gin 348 (by decide +kernel) (by decide +kernel)
theorem kw_158 : Cond.selects RX5 yX5_digitHere yX5_digitHere ∈ lw_g := lw_gin 4 (by decide +kernel) (by decide +kernel)
theorem kw_159 : Cond.methodLink RX5 36 yX5_skipBlanks ∈ lw_g := lw_gin 342 (by decide +kernel) (by decide +kernel)
theorem kw_160 : Cond.methodLink RX5 39 yX5_digitHere ∈ lw_g := lw_gin 346 (by decide +kernel) (by decide +kernel)
theorem kw_161 : Cond.methodLink RX5 43 yX0_clear ∈ lw_g := lw_gin 350 (by decide +kernel) (by decide +kernel)
set_option maxRecDepth 100000 in
theorem kw_162 : Cond.code yX5_readWires cX5_readWires 3 (some .boolean) ∈ lw_g := lw_gin 341 rfl rfl
theorem kw_163 : Cond.instanceMethod yX5_readWires ∈ lw_g := lw_gin 340 (by decide +kernel) (by decide +kernel)
theorem kw_164 : Cond.selects RX5 yX5_readWires yX5_readWires ∈ lw_g := lw_gin 2 (by decide +kernel) (by decide +kernel)
set_option maxRecDepth 100000 in
theorem kw_165 : Cond.code yX5_takes cX5_takes 2 (some .boolean) ∈ lw_g := lw_gin 358 rfl rfl
theorem kw_166 : Cond.instanceMethod yX5_takes ∈ lw_g := lw_gin 357 (by decide +kernel) (by decide +kernel)
theorem kw_167 : Cond.selects RX5 yX5_takes yX5_takes ∈ lw_g := lw_gin 6 (by decide +kernel) (by decide +kernel)
theorem kw_168 : Cond.methodLink RX5 29 yX5_takes ∈ lw_g := lw_gin 355 (by decide +kernel) (by decide +kernel)
theorem kw_169 : Cond.methodLink RX5 49 yX0_states ∈ lw_g := lw_gin 359 (by decide +kernel) (by decide +kernel)
theorem kw_170 : Cond.fieldLink RX5 52 "MirrorWires$Board" "bits" "I" ∈ lw_g := lw_gin 104 (by decide +kernel) (by decide +kernel)
set_option maxRecDepth 100000 in
theorem kw_171 : Cond.code yX5_readBits cX5_readBits 5 (some .boolean) ∈ lw_g := lw_gin 354 rfl rfl
theorem kw_172 : Cond.instanceMethod yX5_readBits ∈ lw_g := lw_gin 353 (by decide +kernel) (by decide +kernel)
theorem kw_173 : Cond.selects RX5 yX5_readBits yX5_readBits ∈ lw_g := lw_gin 5 (by decide +kernel) (by decide +kernel)
set_option maxRecDepth 100000 in
theorem kw_174 : Cond.code yX5_isAtEnd cX5_isAtEnd 1 (some .boolean) ∈ lw_g := lw_gin 367 rfl rfl
theorem kw_175 : Cond.instanceMethod yX5_isAtEnd ∈ lw_g := lw_gin 366 (by decide +kernel) (by decide +kernel)
theorem kw_176 : Cond.selects RX5 yX5_isAtEnd yX5_isAtEnd ∈ lw_g := lw_gin 8 (by decide +kernel) (by decide +kernel)
theorem kw_177 : Cond.methodLink RX5 77 yX2_pack ∈ lw_g := lw_gin 376 (by decide +kernel) (by decide +kernel)
theorem kw_178 : Cond.methodLink RX5 84 yX0_add ∈ lw_g := lw_gin 380 (by decide +kernel) (by decide +kernel)
theorem kw_179 : Cond.methodLink RX5 81 yX2_killed ∈ lw_g := lw_gin 377 (by decide +kernel) (by decide +kernel)
theorem kw_180 : Cond.fieldLink RX5 74 "MirrorWires$Board" "wires" "I" ∈ lw_g := lw_gin 94 (by decide +kernel) (by decide +kernel)
theorem kw_181 : Cond.methodLink RX5 71 yX2_wiresOf ∈ lw_g := lw_gin 375 (by decide +kernel) (by decide +kernel)
theorem kw_182 : Cond.methodLink RX5 65 yX2_kindNamed ∈ lw_g := lw_gin 372 (by decide +kernel) (by decide +kernel)
set_option maxRecDepth 100000 in
theorem kw_183 : Cond.code yX5_readGate cX5_readGate 8 (some .boolean) ∈ lw_g := lw_gin 371 rfl rfl
theorem kw_184 : Cond.instanceMethod yX5_readGate ∈ lw_g := lw_gin 370 (by decide +kernel) (by decide +kernel)
theorem kw_185 : Cond.selects RX5 yX5_readGate yX5_readGate ∈ lw_g := lw_gin 9 (by decide +kernel) (by decide +kernel)
theorem kw_186 : Cond.methodLink RX5 59 yX5_readGate ∈ lw_g := lw_gin 368 (by decide +kernel) (by decide +kernel)
theorem kw_187 : Cond.methodLink RX5 55 yX5_isAtEnd ∈ lw_g := lw_gin 364 (by decide +kernel) (by decide +kernel)
theorem kw_188 : Cond.fieldLink RX5 62 "MirrorWires$Board" "count" "I" ∈ lw_g := lw_gin 98 (by decide +kernel) (by decide +kernel)
set_option maxRecDepth 100000 in
theorem kw_189 : Cond.code yX5_readGates cX5_readGates 3 (some .boolean) ∈ lw_g := lw_gin 363 rfl rfl
theorem kw_190 : Cond.instanceMethod yX5_readGates ∈ lw_g := lw_gin 362 (by decide +kernel) (by decide +kernel)
theorem kw_191 : Cond.selects RX5 yX5_readGates yX5_readGates ∈ lw_g := lw_gin 7 (by decide +kernel) (by decide +kernel)
theorem kw_192 : Cond.methodLink RX5 22 yX5_readWires ∈ lw_g := lw_gin 338 (by decide +kernel) (by decide +kernel)
theorem kw_193 : Cond.methodLink RX5 26 yX5_readBits ∈ lw_g := lw_gin 351 (by decide +kernel) (by decide +kernel)
theorem kw_194 : Cond.methodLink RX5 33 yX5_readGates ∈ lw_g := lw_gin 360 (by decide +kernel) (by decide +kernel)
set_option maxRecDepth 100000 in
theorem kw_195 : Cond.code yX5_readInto cX5_readInto 2 (some .boolean) ∈ lw_g := lw_gin 337 rfl rfl
theorem kw_196 : Cond.instanceMethod yX5_readInto ∈ lw_g := lw_gin 335 (by decide +kernel) (by decide +kernel)
theorem kw_197 : Cond.selects RX5 yX5_readInto yX5_readInto ∈ lw_g := lw_gin 336 (by decide +kernel) (by decide +kernel)
theorem kw_198 : Cond.fieldLink RX1 18 "MirrorWires$Foretold" "to" "[I" ∈ lw_g := lw_gin 126 (by decide +kernel) (by decide +kernel)
theorem kw_199 : Cond.fieldLink RX1 12 "MirrorWires$Foretold" "board" "LMirrorWires$Board;" ∈ lw_g := lw_gin 124 (by decide +kernel) (by decide +kernel)
theorem kw_200 : Cond.methodLink RX1 32 yX0_run ∈ lw_g := lw_gin 515 (by decide +kernel) (by decide +kernel)
theorem kw_201 : Cond.methodLink RX1 28 yX0_states ∈ lw_g := lw_gin 533 (by decide +kernel) (by decide +kernel)
set_option maxRecDepth 100000 in
theorem kw_202 : Cond.code yX1_learnRuns cX1_learnRuns 3 none ∈ lw_g := lw_gin 532 rfl rfl
theorem kw_203 : Cond.initialized RX1 ∈ lw_g := lw_gin 61 (by decide +kernel) (by decide +kernel)
theorem kw_204 : Cond.instanceMethod yX1_learnRuns ∈ lw_g := lw_gin 531 (by decide +kernel) (by decide +kernel)
theorem kw_205 : Cond.selects RX1 yX1_learnRuns yX1_learnRuns ∈ lw_g := lw_gin 12 (by decide +kernel) (by decide +kernel)
set_option maxRecDepth 100000 in
theorem kw_206 : Cond.code yX1_ringLength cX1_ringLength 4 (some .int) ∈ lw_g := lw_gin 514 rfl rfl
theorem kw_207 : Cond.instanceMethod yX1_ringLength ∈ lw_g := lw_gin 512 (by decide +kernel) (by decide +kernel)
theorem kw_208 : Cond.selects RX1 yX1_ringLength yX1_ringLength ∈ lw_g := lw_gin 513 (by decide +kernel) (by decide +kernel)
theorem kw_209 : Cond.methodLink RX1 36 yX1_ringLength ∈ lw_g := lw_gin 511 (by decide +kernel) (by decide +kernel)
set_option maxRecDepth 100000 in
theorem kw_210 : Cond.code yX1_behindRuns cX1_behindRuns 7 (some .int) ∈ lw_g := lw_gin 510 rfl rfl
theorem kw_211 : Cond.instanceMethod yX1_behindRuns ∈ lw_g := lw_gin 508 (by decide +kernel) (by decide +kernel)
theorem kw_212 : Cond.selects RX1 yX1_behindRuns yX1_behindRuns ∈ lw_g := lw_gin 509 (by decide +kernel) (by decide +kernel)
set_option maxRecDepth 100000 in
theorem kw_213 : Cond.code yX1_commonDivisor cX1_commonDivisor 6 (some .int) ∈ lw_g := lw_gin 543 rfl rfl
theorem kw_214 : Cond.static yX1_commonDivisor ∈ lw_g := lw_gin 542 (by decide +kernel) (by decide +kernel)
theorem kw_215 : Cond.fieldLink RX1 49 "MirrorWires$Foretold" "stillStates" "I" ∈ lw_g := lw_gin 133 (by decide +kernel) (by decide +kernel)
theorem kw_216 : Cond.fieldLink RX1 52 "MirrorWires$Foretold" "allRings" "I" ∈ lw_g := lw_gin 135 (by decide +kernel) (by decide +kernel)
theorem kw_217 : Cond.methodLink RX1 65 yX1_commonDivisor ∈ lw_g := lw_gin 541 (by decide +kernel) (by decide +kernel)
theorem kw_218 : Cond.fieldLink RX1 42 "MirrorWires$Foretold" "ringCount" "I" ∈ lw_g := lw_gin 129 (by decide +kernel) (by decide +kernel)
theorem kw_219 : Cond.fieldLink RX1 46 "MirrorWires$Foretold" "longestRing" "I" ∈ lw_g := lw_gin 131 (by decide +kernel) (by decide +kernel)
theorem kw_220 : Cond.methodLink RX1 59 Lib.Math.max.name ∈ lw_g := lw_gin 538 (by decide +kernel) (by decide +kernel)
theorem kw_221 : Cond.static Lib.Math.max.name ∈ lw_g := lw_gin 539 (by decide +kernel) (by decide +kernel)
set_option maxRecDepth 100000 in
theorem kw_222 : Cond.code Lib.Math.max.name Lib.Math.max.code 2 (some .int) ∈ lw_g := lw_gin 540 rfl rfl
set_option maxRecDepth 100000 in
theorem kw_223 : Cond.code yX1_countRing cX1_countRing 3 none ∈ lw_g := lw_gin 537 rfl rfl
theorem kw_224 : Cond.instanceMethod yX1_countRing ∈ lw_g := lw_gin 536 (by decide +kernel) (by decide +kernel)
theorem kw_225 : Cond.selects RX1 yX1_countRing yX1_countRing ∈ lw_g := lw_gin 13 (by decide +kernel) (by decide +kernel)
theorem kw_226 : Cond.methodLink RX1 55 yX1_countRing ∈ lw_g := lw_gin 534 (by decide +kernel) (by decide +kernel)
theorem kw_227 : Cond.methodLink RX1 39 yX1_learnRuns ∈ lw_g := lw_gin 529 (by decide +kernel) (by decide +kernel)
set_option maxRecDepth 100000 in
theorem kw_228 : Cond.code yX1_lookAtRings cX1_lookAtRings 7 none ∈ lw_g := lw_gin 528 rfl rfl
theorem kw_229 : Cond.instanceMethod yX1_lookAtRings ∈ lw_g := lw_gin 526 (by decide +kernel) (by decide +kernel)
theorem kw_230 : Cond.selects RX1 yX1_lookAtRings yX1_lookAtRings ∈ lw_g := lw_gin 527 (by decide +kernel) (by decide +kernel)
theorem kw_231 : Cond.fieldLink RX1 75 "MirrorWires$Board" "gates" "[I" ∈ lw_g := lw_gin 102 (by decide +kernel) (by decide +kernel)
theorem kw_232 : Cond.methodLink RX1 78 yX2_act ∈ lw_g := lw_gin 564 (by decide +kernel) (by decide +kernel)
theorem kw_233 : Cond.fieldLink RX1 72 "MirrorWires$Board" "count" "I" ∈ lw_g := lw_gin 99 (by decide +kernel) (by decide +kernel)
set_option maxRecDepth 100000 in
theorem kw_234 : Cond.code yX1_runChanged cX1_runChanged 7 (some .int) ∈ lw_g := lw_gin 563 rfl rfl
theorem kw_235 : Cond.instanceMethod yX1_runChanged ∈ lw_g := lw_gin 562 (by decide +kernel) (by decide +kernel)
theorem kw_236 : Cond.selects RX1 yX1_runChanged yX1_runChanged ∈ lw_g := lw_gin 14 (by decide +kernel) (by decide +kernel)
theorem kw_237 : Cond.methodLink RX1 68 yX1_runChanged ∈ lw_g := lw_gin 560 (by decide +kernel) (by decide +kernel)
set_option maxRecDepth 100000 in
theorem kw_238 : Cond.code yX1_mayChangePlaces cX1_mayChangePlaces 5 (some .boolean) ∈ lw_g := lw_gin 559 rfl rfl
theorem kw_239 : Cond.instanceMethod yX1_mayChangePlaces ∈ lw_g := lw_gin 557 (by decide +kernel) (by decide +kernel)
theorem kw_240 : Cond.selects RX1 yX1_mayChangePlaces yX1_mayChangePlaces ∈ lw_g := lw_gin 558 (by decide +kernel) (by decide +kernel)
theorem kw_241 : Cond.fieldLink RX1 22 "MirrorWires$Foretold" "work" "[I" ∈ lw_g := lw_gin 127 (by decide +kernel) (by decide +kernel)
theorem kw_242 : Cond.methodLink RX1 87 yX2_isDead ∈ lw_g := lw_gin 577 (by decide +kernel) (by decide +kernel)
set_option maxRecDepth 100000 in
theorem kw_243 : Cond.code yX1_mayBeLeftOut cX1_mayBeLeftOut 5 (some .boolean) ∈ lw_g := lw_gin 576 rfl rfl
theorem kw_244 : Cond.instanceMethod yX1_mayBeLeftOut ∈ lw_g := lw_gin 575 (by decide +kernel) (by decide +kernel)
theorem kw_245 : Cond.selects RX1 yX1_mayBeLeftOut yX1_mayBeLeftOut ∈ lw_g := lw_gin 15 (by decide +kernel) (by decide +kernel)
theorem kw_246 : Cond.methodLink RX1 83 yX1_mayBeLeftOut ∈ lw_g := lw_gin 573 (by decide +kernel) (by decide +kernel)
set_option maxRecDepth 100000 in
theorem kw_247 : Cond.code yX1_firstPair cX1_firstPair 5 (some .int) ∈ lw_g := lw_gin 572 rfl rfl
theorem kw_248 : Cond.instanceMethod yX1_firstPair ∈ lw_g := lw_gin 570 (by decide +kernel) (by decide +kernel)
theorem kw_249 : Cond.selects RX1 yX1_firstPair yX1_firstPair ∈ lw_g := lw_gin 571 (by decide +kernel) (by decide +kernel)
theorem kw_250 : Cond.fieldLink RX1 91 "MirrorWires$Board" "wires" "I" ∈ lw_g := lw_gin 95 (by decide +kernel) (by decide +kernel)
set_option maxRecDepth 100000 in
theorem kw_251 : Cond.code yX1_hangsOn cX1_hangsOn 6 (some .int) ∈ lw_g := lw_gin 585 rfl rfl
theorem kw_252 : Cond.instanceMethod yX1_hangsOn ∈ lw_g := lw_gin 583 (by decide +kernel) (by decide +kernel)
theorem kw_253 : Cond.selects RX1 yX1_hangsOn yX1_hangsOn ∈ lw_g := lw_gin 584 (by decide +kernel) (by decide +kernel)
set_option maxRecDepth 100000 in
theorem kw_254 : Cond.code yX1_turnedStates cX1_turnedStates 5 (some .int) ∈ lw_g := lw_gin 589 rfl rfl
theorem kw_255 : Cond.instanceMethod yX1_turnedStates ∈ lw_g := lw_gin 587 (by decide +kernel) (by decide +kernel)
theorem kw_256 : Cond.selects RX1 yX1_turnedStates yX1_turnedStates ∈ lw_g := lw_gin 588 (by decide +kernel) (by decide +kernel)
theorem kw_257 : Cond.fieldLink RX1 25 "MirrorWires$Foretold" "line" "[I" ∈ lw_g := lw_gin 128 (by decide +kernel) (by decide +kernel)
theorem kw_258 : Cond.methodLink RX1 94 yJ7_fill_53178 ∈ lw_g := lw_gin 602 (by decide +kernel) (by decide +kernel)
set_option maxRecDepth 100000 in
theorem kw_259 : Cond.code yX1_spreadFrom cX1_spreadFrom 7 (some .int) ∈ lw_g := lw_gin 601 rfl rfl
theorem kw_260 : Cond.instanceMethod yX1_spreadFrom ∈ lw_g := lw_gin 599 (by decide +kernel) (by decide +kernel)
theorem kw_261 : Cond.selects RX1 yX1_spreadFrom yX1_spreadFrom ∈ lw_g := lw_gin 600 (by decide +kernel) (by decide +kernel)
theorem kw_262 : Cond.methodLink RX1 100 yX1_spreadFrom ∈ lw_g := lw_gin 598 (by decide +kernel) (by decide +kernel)
set_option maxRecDepth 100000 in
theorem kw_263 : Cond.code yX1_wayLength cX1_wayLength 3 (some .int) ∈ lw_g := lw_gin 597 rfl rfl
theorem kw_264 : Cond.instanceMethod yX1_wayLength ∈ lw_g := lw_gin 595 (by decide +kernel) (by decide +kernel)
theorem kw_265 : Cond.selects RX1 yX1_wayLength yX1_wayLength ∈ lw_g := lw_gin 596 (by decide +kernel) (by decide +kernel)
set_option maxRecDepth 100000 in
theorem kw_266 : Cond.code yX1_nearerGate cX1_nearerGate 3 (some .int) ∈ lw_g := lw_gin 613 rfl rfl
theorem kw_267 : Cond.instanceMethod yX1_nearerGate ∈ lw_g := lw_gin 612 (by decide +kernel) (by decide +kernel)
theorem kw_268 : Cond.selects RX1 yX1_nearerGate yX1_nearerGate ∈ lw_g := lw_gin 16 (by decide +kernel) (by decide +kernel)
theorem kw_269 : Cond.methodLink RX1 106 yX1_nearerGate ∈ lw_g := lw_gin 610 (by decide +kernel) (by decide +kernel)
theorem kw_270 : Cond.methodLink RX1 103 yX1_wayLength ∈ lw_g := lw_gin 609 (by decide +kernel) (by decide +kernel)
set_option maxRecDepth 100000 in
theorem kw_271 : Cond.code yX1_wayGate cX1_wayGate 6 (some .int) ∈ lw_g := lw_gin 608 rfl rfl
theorem kw_272 : Cond.instanceMethod yX1_wayGate ∈ lw_g := lw_gin 606 (by decide +kernel) (by decide +kernel)
theorem kw_273 : Cond.selects RX1 yX1_wayGate yX1_wayGate ∈ lw_g := lw_gin 607 (by decide +kernel) (by decide +kernel)
set_option maxRecDepth 100000 in
theorem kw_274 : Cond.code yX1_shownGates cX1_shownGates 6 (some .int) ∈ lw_g := lw_gin 626 rfl rfl
theorem kw_275 : Cond.instanceMethod yX1_shownGates ∈ lw_g := lw_gin 624 (by decide +kernel) (by decide +kernel)
theorem kw_276 : Cond.selects RX1 yX1_shownGates yX1_shownGates ∈ lw_g := lw_gin 625 (by decide +kernel) (by decide +kernel)
theorem kw_277 : Cond.methodLink RX1 109 yX1_shownGates ∈ lw_g := lw_gin 635 (by decide +kernel) (by decide +kernel)
theorem kw_278 : Cond.methodLink RX1 112 yJ6_bitCount_0f7a4 ∈ lw_g := lw_gin 636 (by decide +kernel) (by decide +kernel)
set_option maxRecDepth 100000 in
theorem kw_279 : Cond.code yX1_tellingState cX1_tellingState 6 (some .int) ∈ lw_g := lw_gin 634 rfl rfl
theorem kw_280 : Cond.instanceMethod yX1_tellingState ∈ lw_g := lw_gin 632 (by decide +kernel) (by decide +kernel)
theorem kw_281 : Cond.selects RX1 yX1_tellingState yX1_tellingState ∈ lw_g := lw_gin 633 (by decide +kernel) (by decide +kernel)
set_option maxRecDepth 100000 in
theorem kw_282 : Cond.code yX1_weight cX1_weight 5 (some .int) ∈ lw_g := lw_gin 648 rfl rfl
theorem kw_283 : Cond.instanceMethod yX1_weight ∈ lw_g := lw_gin 647 (by decide +kernel) (by decide +kernel)
theorem kw_284 : Cond.selects RX1 yX1_weight yX1_weight ∈ lw_g := lw_gin 17 (by decide +kernel) (by decide +kernel)
theorem kw_285 : Cond.methodLink RX1 117 yX1_weight ∈ lw_g := lw_gin 645 (by decide +kernel) (by decide +kernel)
set_option maxRecDepth 100000 in
theorem kw_286 : Cond.code yX1_likelySet cX1_likelySet 9 (some .int) ∈ lw_g := lw_gin 644 rfl rfl
theorem kw_287 : Cond.instanceMethod yX1_likelySet ∈ lw_g := lw_gin 642 (by decide +kernel) (by decide +kernel)
theorem kw_288 : Cond.selects RX1 yX1_likelySet yX1_likelySet ∈ lw_g := lw_gin 643 (by decide +kernel) (by decide +kernel)
theorem kw_289 : Cond.fieldLink RX1 137 "MirrorWires$Sheet" "items" "[J" ∈ lw_g := lw_gin 209 (by decide +kernel) (by decide +kernel)
theorem kw_290 : Cond.methodLink RX1 143 yX0_runWith ∈ lw_g := lw_gin 692 (by decide +kernel) (by decide +kernel)
set_option maxRecDepth 100000 in
theorem kw_291 : Cond.code yX1_tellsOf cX1_tellsOf 8 (some .boolean) ∈ lw_g := lw_gin 691 rfl rfl
theorem kw_292 : Cond.instanceMethod yX1_tellsOf ∈ lw_g := lw_gin 690 (by decide +kernel) (by decide +kernel)
theorem kw_293 : Cond.selects RX1 yX1_tellsOf yX1_tellsOf ∈ lw_g := lw_gin 19 (by decide +kernel) (by decide +kernel)
theorem kw_294 : Cond.methodLink RX1 120 yX2_killed ∈ lw_g := lw_gin 687 (by decide +kernel) (by decide +kernel)
theorem kw_295 : Cond.methodLink RX1 123 yX1_tellsOf ∈ lw_g := lw_gin 688 (by decide +kernel) (by decide +kernel)
set_option maxRecDepth 100000 in
theorem kw_296 : Cond.code yX1_deathsBy cX1_deathsBy 7 (some .int) ∈ lw_g := lw_gin 686 rfl rfl
theorem kw_297 : Cond.instanceMethod yX1_deathsBy ∈ lw_g := lw_gin 684 (by decide +kernel) (by decide +kernel)
theorem kw_298 : Cond.selects RX1 yX1_deathsBy yX1_deathsBy ∈ lw_g := lw_gin 685 (by decide +kernel) (by decide +kernel)
theorem kw_299 : Cond.methodLink RX1 130 yX2_areUnlike ∈ lw_g := lw_gin 705 (by decide +kernel) (by decide +kernel)
theorem kw_300 : Cond.methodLink RX1 134 yX2_asKind ∈ lw_g := lw_gin 706 (by decide +kernel) (by decide +kernel)
theorem kw_301 : Cond.methodLink RX1 127 yX2_wireAt ∈ lw_g := lw_gin 704 (by decide +kernel) (by decide +kernel)
set_option maxRecDepth 100000 in
theorem kw_302 : Cond.code yX1_kindsBy cX1_kindsBy 12 (some .int) ∈ lw_g := lw_gin 703 rfl rfl
theorem kw_303 : Cond.instanceMethod yX1_kindsBy ∈ lw_g := lw_gin 701 (by decide +kernel) (by decide +kernel)
theorem kw_304 : Cond.selects RX1 yX1_kindsBy yX1_kindsBy ∈ lw_g := lw_gin 702 (by decide +kernel) (by decide +kernel)
set_option maxRecDepth 100000 in
theorem kw_305 : Cond.code yX1_runsBy cX1_runsBy 8 (some .int) ∈ lw_g := lw_gin 699 rfl rfl
theorem kw_306 : Cond.instanceMethod yX1_runsBy ∈ lw_g := lw_gin 697 (by decide +kernel) (by decide +kernel)
theorem kw_307 : Cond.selects RX1 yX1_runsBy yX1_runsBy ∈ lw_g := lw_gin 698 (by decide +kernel) (by decide +kernel)
theorem kw_308 : Cond.fieldLink RX6 20 "MirrorWires" "now" "LMirrorWires$Board;" ∈ lw_g := lw_gin 222 (by decide +kernel) (by decide +kernel)
theorem kw_309 : Cond.fieldLink RX6 56 "MirrorWires$Board" "wires" "I" ∈ lw_g := lw_gin 93 (by decide +kernel) (by decide +kernel)
theorem kw_310 : Cond.methodLink RX6 60 yX0_clear ∈ lw_g := lw_gin 253 (by decide +kernel) (by decide +kernel)
theorem kw_311 : Cond.fieldLink RX6 26 "MirrorWires" "past" "LMirrorWires$Past;" ∈ lw_g := lw_gin 223 (by decide +kernel) (by decide +kernel)
theorem kw_312 : Cond.methodLink RX6 64 yX3_forget ∈ lw_g := lw_gin 257 (by decide +kernel) (by decide +kernel)
set_option maxRecDepth 100000 in
theorem kw_313 : Cond.code yX6_wires cX6_wires 3 (some .int) ∈ lw_g := lw_gin 252 rfl rfl
theorem kw_314 : Cond.initialized RX6 ∈ lw_g := lw_gin 60 (by decide +kernel) (by decide +kernel)
theorem kw_315 : Cond.instanceMethod yX6_wires ∈ lw_g := lw_gin 250 (by decide +kernel) (by decide +kernel)
theorem kw_316 : Cond.selects RX6 yX6_wires yX6_wires ∈ lw_g := lw_gin 251 (by decide +kernel) (by decide +kernel)
theorem kw_317 : Cond.methodLink RX6 67 yX2_mayLie ∈ lw_g := lw_gin 265 (by decide +kernel) (by decide +kernel)
theorem kw_318 : Cond.fieldLink RX6 73 "MirrorWires$Board" "count" "I" ∈ lw_g := lw_gin 97 (by decide +kernel) (by decide +kernel)
theorem kw_319 : Cond.methodLink RX6 76 yX2_pack ∈ lw_g := lw_gin 274 (by decide +kernel) (by decide +kernel)
theorem kw_320 : Cond.methodLink RX6 80 yX0_add ∈ lw_g := lw_gin 277 (by decide +kernel) (by decide +kernel)
set_option maxRecDepth 100000 in
theorem kw_321 : Cond.code yX6_gate cX6_gate 5 (some .int) ∈ lw_g := lw_gin 264 rfl rfl
theorem kw_322 : Cond.instanceMethod yX6_gate ∈ lw_g := lw_gin 262 (by decide +kernel) (by decide +kernel)
theorem kw_323 : Cond.selects RX6 yX6_gate yX6_gate ∈ lw_g := lw_gin 263 (by decide +kernel) (by decide +kernel)
set_option maxRecDepth 100000 in
theorem kw_324 : Cond.code yX6_isGate cX6_isGate 2 (some .boolean) ∈ lw_g := lw_gin 288 rfl rfl
theorem kw_325 : Cond.instanceMethod yX6_isGate ∈ lw_g := lw_gin 287 (by decide +kernel) (by decide +kernel)
theorem kw_326 : Cond.selects RX6 yX6_isGate yX6_isGate ∈ lw_g := lw_gin 0 (by decide +kernel) (by decide +kernel)
theorem kw_327 : Cond.methodLink RX6 83 yX6_isGate ∈ lw_g := lw_gin 285 (by decide +kernel) (by decide +kernel)
theorem kw_328 : Cond.fieldLink RX6 87 "MirrorWires$Board" "gates" "[I" ∈ lw_g := lw_gin 101 (by decide +kernel) (by decide +kernel)
theorem kw_329 : Cond.methodLink RX6 98 yX2_wireAt ∈ lw_g := lw_gin 295 (by decide +kernel) (by decide +kernel)
theorem kw_330 : Cond.methodLink RX6 95 yX2_isDead ∈ lw_g := lw_gin 292 (by decide +kernel) (by decide +kernel)
theorem kw_331 : Cond.methodLink RX6 91 yX2_kindOf ∈ lw_g := lw_gin 289 (by decide +kernel) (by decide +kernel)
set_option maxRecDepth 100000 in
theorem kw_332 : Cond.code yX6_of cX6_of 4 (some .int) ∈ lw_g := lw_gin 284 rfl rfl
theorem kw_333 : Cond.instanceMethod yX6_of ∈ lw_g := lw_gin 282 (by decide +kernel) (by decide +kernel)
theorem kw_334 : Cond.selects RX6 yX6_of yX6_of ∈ lw_g := lw_gin 283 (by decide +kernel) (by decide +kernel)
theorem kw_335 : Cond.methodLink RX6 205 yX0_states ∈ lw_g := lw_gin 306 (by decide +kernel) (by decide +kernel)
set_option maxRecDepth 100000 in
theorem kw_336 : Cond.code yX6_isState cX6_isState 2 (some .boolean) ∈ lw_g := lw_gin 305 rfl rfl
theorem kw_337 : Cond.instanceMethod yX6_isState ∈ lw_g := lw_gin 304 (by decide +kernel) (by decide +kernel)
theorem kw_338 : Cond.selects RX6 yX6_isState yX6_isState ∈ lw_g := lw_gin 1 (by decide +kernel) (by decide +kernel)
theorem kw_339 : Cond.methodLink RX6 102 yX6_isState ∈ lw_g := lw_gin 302 (by decide +kernel) (by decide +kernel)
theorem kw_340 : Cond.methodLink RX6 105 yX2_act ∈ lw_g := lw_gin 310 (by decide +kernel) (by decide +kernel)
set_option maxRecDepth 100000 in
theorem kw_341 : Cond.code yX6_does cX6_does 3 (some .int) ∈ lw_g := lw_gin 301 rfl rfl
theorem kw_342 : Cond.instanceMethod yX6_does ∈ lw_g := lw_gin 299 (by decide +kernel) (by decide +kernel)
theorem kw_343 : Cond.selects RX6 yX6_does yX6_does ∈ lw_g := lw_gin 300 (by decide +kernel) (by decide +kernel)
theorem kw_344 : Cond.fieldLink RX6 42 "MirrorWires" "tape" "LMirrorWires$Tape;" ∈ lw_g := lw_gin 227 (by decide +kernel) (by decide +kernel)
theorem kw_345 : Cond.methodLink RX6 108 yX5_add ∈ lw_g := lw_gin 326 (by decide +kernel) (by decide +kernel)
theorem kw_346 : Cond.fieldLink RX6 111 "MirrorWires$Tape" "length" "I" ∈ lw_g := lw_gin 184 (by decide +kernel) (by decide +kernel)
set_option maxRecDepth 100000 in
theorem kw_347 : Cond.code yX6_type cX6_type 2 (some .int) ∈ lw_g := lw_gin 325 rfl rfl
theorem kw_348 : Cond.instanceMethod yX6_type ∈ lw_g := lw_gin 323 (by decide +kernel) (by decide +kernel)
theorem kw_349 : Cond.selects RX6 yX6_type yX6_type ∈ lw_g := lw_gin 324 (by decide +kernel) (by decide +kernel)
theorem kw_350 : Cond.fieldLink RX6 46 "MirrorWires" "draft" "LMirrorWires$Board;" ∈ lw_g := lw_gin 228 (by decide +kernel) (by decide +kernel)
theorem kw_351 : Cond.methodLink RX6 114 yX5_readInto ∈ lw_g := lw_gin 334 (by decide +kernel) (by decide +kernel)
theorem kw_352 : Cond.fieldLink RX6 121 "MirrorWires$Board" "draw" "I" ∈ lw_g := lw_gin 109 (by decide +kernel) (by decide +kernel)
theorem kw_353 : Cond.methodLink RX6 124 yX0_becomes ∈ lw_g := lw_gin 381 (by decide +kernel) (by decide +kernel)
theorem kw_354 : Cond.fieldLink RX6 118 "MirrorWires$Tape" "at" "I" ∈ lw_g := lw_gin 186 (by decide +kernel) (by decide +kernel)
set_option maxRecDepth 100000 in
theorem kw_355 : Cond.code yX6_circuit cX6_circuit 2 (some .int) ∈ lw_g := lw_gin 333 rfl rfl
theorem kw_356 : Cond.instanceMethod yX6_circuit ∈ lw_g := lw_gin 331 (by decide +kernel) (by decide +kernel)
theorem kw_357 : Cond.selects RX6 yX6_circuit yX6_circuit ∈ lw_g := lw_gin 332 (by decide +kernel) (by decide +kernel)
theorem kw_358 : Cond.fieldLink RX6 128 "MirrorWires$Board" "bits" "I" ∈ lw_g := lw_gin 105 (by decide +kernel) (by decide +kernel)
theorem kw_359 : Cond.fieldLink RX6 131 "MirrorWires$Board" "place" "I" ∈ lw_g := lw_gin 107 (by decide +kernel) (by decide +kernel)
theorem kw_360 : Cond.methodLink RX6 134 yX0_deadOnes ∈ lw_g := lw_gin 392 (by decide +kernel) (by decide +kernel)
theorem kw_361 : Cond.methodLink RX6 138 yJ6_bitCount_0f7a4 ∈ lw_g := lw_gin 397 (by decide +kernel) (by decide +kernel)
theorem kw_362 : Cond.fieldLink RX6 143 "MirrorWires$Past" "known" "I" ∈ lw_g := lw_gin 166 (by decide +kernel) (by decide +kernel)
set_option maxRecDepth 100000 in
theorem kw_363 : Cond.code yX6_count cX6_count 2 (some .int) ∈ lw_g := lw_gin 391 rfl rfl
theorem kw_364 : Cond.instanceMethod yX6_count ∈ lw_g := lw_gin 389 (by decide +kernel) (by decide +kernel)
theorem kw_365 : Cond.selects RX6 yX6_count yX6_count ∈ lw_g := lw_gin 390 (by decide +kernel) (by decide +kernel)
theorem kw_366 : Cond.methodLink RX6 146 yX3_keep ∈ lw_g := lw_gin 407 (by decide +kernel) (by decide +kernel)
theorem kw_367 : Cond.methodLink RX6 149 yX0_stepOn ∈ lw_g := lw_gin 415 (by decide +kernel) (by decide +kernel)
set_option maxRecDepth 100000 in
theorem kw_368 : Cond.code yX6_step cX6_step 3 (some .int) ∈ lw_g := lw_gin 406 rfl rfl
theorem kw_369 : Cond.instanceMethod yX6_step ∈ lw_g := lw_gin 404 (by decide +kernel) (by decide +kernel)
theorem kw_370 : Cond.selects RX6 yX6_step yX6_step ∈ lw_g := lw_gin 405 (by decide +kernel) (by decide +kernel)
theorem kw_371 : Cond.methodLink RX6 152 yX0_stepBack ∈ lw_g := lw_gin 424 (by decide +kernel) (by decide +kernel)
set_option maxRecDepth 100000 in
theorem kw_372 : Cond.code yX6_back cX6_back 3 (some .int) ∈ lw_g := lw_gin 423 rfl rfl
theorem kw_373 : Cond.instanceMethod yX6_back ∈ lw_g := lw_gin 421 (by decide +kernel) (by decide +kernel)
theorem kw_374 : Cond.selects RX6 yX6_back yX6_back ∈ lw_g := lw_gin 422 (by decide +kernel) (by decide +kernel)
set_option maxRecDepth 100000 in
theorem kw_375 : Cond.code yX6_home cX6_home 2 (some .int) ∈ lw_g := lw_gin 431 rfl rfl
theorem kw_376 : Cond.instanceMethod yX6_home ∈ lw_g := lw_gin 429 (by decide +kernel) (by decide +kernel)
theorem kw_377 : Cond.selects RX6 yX6_home yX6_home ∈ lw_g := lw_gin 430 (by decide +kernel) (by decide +kernel)
set_option maxRecDepth 100000 in
theorem kw_378 : Cond.code yX6_isWire cX6_isWire 2 (some .boolean) ∈ lw_g := lw_gin 439 rfl rfl
theorem kw_379 : Cond.instanceMethod yX6_isWire ∈ lw_g := lw_gin 438 (by decide +kernel) (by decide +kernel)
theorem kw_380 : Cond.selects RX6 yX6_isWire yX6_isWire ∈ lw_g := lw_gin 10 (by decide +kernel) (by decide +kernel)
theorem kw_381 : Cond.methodLink RX6 155 yX6_isWire ∈ lw_g := lw_gin 436 (by decide +kernel) (by decide +kernel)
theorem kw_382 : Cond.methodLink RX6 158 yX0_turnOver ∈ lw_g := lw_gin 440 (by decide +kernel) (by decide +kernel)
set_option maxRecDepth 100000 in
theorem kw_383 : Cond.code yX6_flip cX6_flip 2 (some .int) ∈ lw_g := lw_gin 435 rfl rfl
theorem kw_384 : Cond.instanceMethod yX6_flip ∈ lw_g := lw_gin 433 (by decide +kernel) (by decide +kernel)
theorem kw_385 : Cond.selects RX6 yX6_flip yX6_flip ∈ lw_g := lw_gin 434 (by decide +kernel) (by decide +kernel)
theorem kw_386 : Cond.methodLink RX6 161 yX2_killed ∈ lw_g := lw_gin 448 (by decide +kernel) (by decide +kernel)
set_option maxRecDepth 100000 in
theorem kw_387 : Cond.code yX6_kill cX6_kill 2 (some .int) ∈ lw_g := lw_gin 447 rfl rfl
theorem kw_388 : Cond.instanceMethod yX6_kill ∈ lw_g := lw_gin 445 (by decide +kernel) (by decide +kernel)
theorem kw_389 : Cond.selects RX6 yX6_kill yX6_kill ∈ lw_g := lw_gin 446 (by decide +kernel) (by decide +kernel)
theorem kw_390 : Cond.methodLink RX6 164 yX2_healed ∈ lw_g := lw_gin 453 (by decide +kernel) (by decide +kernel)
set_option maxRecDepth 100000 in
theorem kw_391 : Cond.code yX6_heal cX6_heal 2 (some .int) ∈ lw_g := lw_gin 452 rfl rfl
theorem kw_392 : Cond.instanceMethod yX6_heal ∈ lw_g := lw_gin 450 (by decide +kernel) (by decide +kernel)
theorem kw_393 : Cond.selects RX6 yX6_heal yX6_heal ∈ lw_g := lw_gin 451 (by decide +kernel) (by decide +kernel)
set_option maxRecDepth 100000 in
theorem kw_394 : Cond.code yX6_areTwoGates cX6_areTwoGates 3 (some .boolean) ∈ lw_g := lw_gin 463 rfl rfl
theorem kw_395 : Cond.instanceMethod yX6_areTwoGates ∈ lw_g := lw_gin 462 (by decide +kernel) (by decide +kernel)
theorem kw_396 : Cond.selects RX6 yX6_areTwoGates yX6_areTwoGates ∈ lw_g := lw_gin 11 (by decide +kernel) (by decide +kernel)
theorem kw_397 : Cond.methodLink RX6 167 yX6_areTwoGates ∈ lw_g := lw_gin 460 (by decide +kernel) (by decide +kernel)
set_option maxRecDepth 100000 in
theorem kw_398 : Cond.code yX6_move cX6_move 4 (some .int) ∈ lw_g := lw_gin 459 rfl rfl
theorem kw_399 : Cond.instanceMethod yX6_move ∈ lw_g := lw_gin 457 (by decide +kernel) (by decide +kernel)
theorem kw_400 : Cond.selects RX6 yX6_move yX6_move ∈ lw_g := lw_gin 458 (by decide +kernel) (by decide +kernel)
theorem kw_401 : Cond.methodLink RX6 171 yX0_driftOn ∈ lw_g := lw_gin 468 (by decide +kernel) (by decide +kernel)
set_option maxRecDepth 100000 in
theorem kw_402 : Cond.code yX6_drift cX6_drift 3 (some .int) ∈ lw_g := lw_gin 467 rfl rfl
theorem kw_403 : Cond.instanceMethod yX6_drift ∈ lw_g := lw_gin 465 (by decide +kernel) (by decide +kernel)
theorem kw_404 : Cond.selects RX6 yX6_drift yX6_drift ∈ lw_g := lw_gin 466 (by decide +kernel) (by decide +kernel)
theorem kw_405 : Cond.methodLink RX6 174 yX3_giveBack ∈ lw_g := lw_gin 482 (by decide +kernel) (by decide +kernel)
set_option maxRecDepth 100000 in
theorem kw_406 : Cond.code yX6_undo cX6_undo 1 (some .int) ∈ lw_g := lw_gin 481 rfl rfl
theorem kw_407 : Cond.instanceMethod yX6_undo ∈ lw_g := lw_gin 479 (by decide +kernel) (by decide +kernel)
theorem kw_408 : Cond.selects RX6 yX6_undo yX6_undo ∈ lw_g := lw_gin 480 (by decide +kernel) (by decide +kernel)
set_option maxRecDepth 100000 in
theorem kw_409 : Cond.code yX6_seed cX6_seed 3 (some .int) ∈ lw_g := lw_gin 489 rfl rfl
theorem kw_410 : Cond.instanceMethod yX6_seed ∈ lw_g := lw_gin 487 (by decide +kernel) (by decide +kernel)
theorem kw_411 : Cond.selects RX6 yX6_seed yX6_seed ∈ lw_g := lw_gin 488 (by decide +kernel) (by decide +kernel)
theorem kw_412 : Cond.methodLink RX6 180 yX0_runBack ∈ lw_g := lw_gin 498 (by decide +kernel) (by decide +kernel)
theorem kw_413 : Cond.methodLink RX6 177 yX0_run ∈ lw_g := lw_gin 494 (by decide +kernel) (by decide +kernel)
set_option maxRecDepth 100000 in
theorem kw_414 : Cond.code yX6_goes cX6_goes 3 (some .int) ∈ lw_g := lw_gin 493 rfl rfl
theorem kw_415 : Cond.instanceMethod yX6_goes ∈ lw_g := lw_gin 491 (by decide +kernel) (by decide +kernel)
theorem kw_416 : Cond.selects RX6 yX6_goes yX6_goes ∈ lw_g := lw_gin 492 (by decide +kernel) (by decide +kernel)
theorem kw_417 : Cond.constant RX6 183 2000000000 ∈ lw_g := lw_gin 506 (by decide +kernel) (by decide +kernel)
theorem kw_418 : Cond.fieldLink RX6 10 "MirrorWires" "foretold" "LMirrorWires$Foretold;" ∈ lw_g := lw_gin 221 (by decide +kernel) (by decide +kernel)
theorem kw_419 : Cond.methodLink RX6 184 yX1_behindRuns ∈ lw_g := lw_gin 507 (by decide +kernel) (by decide +kernel)
set_option maxRecDepth 100000 in
theorem kw_420 : Cond.code yX6_far cX6_far 3 (some .int) ∈ lw_g := lw_gin 505 rfl rfl
theorem kw_421 : Cond.instanceMethod yX6_far ∈ lw_g := lw_gin 503 (by decide +kernel) (by decide +kernel)
theorem kw_422 : Cond.selects RX6 yX6_far yX6_far ∈ lw_g := lw_gin 504 (by decide +kernel) (by decide +kernel)
theorem kw_423 : Cond.methodLink RX6 187 yX1_ringLength ∈ lw_g := lw_gin 520 (by decide +kernel) (by decide +kernel)
set_option maxRecDepth 100000 in
theorem kw_424 : Cond.code yX6_ring cX6_ring 2 (some .int) ∈ lw_g := lw_gin 519 rfl rfl
theorem kw_425 : Cond.instanceMethod yX6_ring ∈ lw_g := lw_gin 517 (by decide +kernel) (by decide +kernel)
theorem kw_426 : Cond.selects RX6 yX6_ring yX6_ring ∈ lw_g := lw_gin 518 (by decide +kernel) (by decide +kernel)
theorem kw_427 : Cond.methodLink RX6 190 yX1_lookAtRings ∈ lw_g := lw_gin 525 (by decide +kernel) (by decide +kernel)
theorem kw_428 : Cond.fieldLink RX6 199 "MirrorWires$Foretold" "stillStates" "I" ∈ lw_g := lw_gin 134 (by decide +kernel) (by decide +kernel)
theorem kw_429 : Cond.fieldLink RX6 196 "MirrorWires$Foretold" "longestRing" "I" ∈ lw_g := lw_gin 132 (by decide +kernel) (by decide +kernel)
theorem kw_430 : Cond.fieldLink RX6 193 "MirrorWires$Foretold" "ringCount" "I" ∈ lw_g := lw_gin 130 (by decide +kernel) (by decide +kernel)
set_option maxRecDepth 100000 in
theorem kw_431 : Cond.code yX6_rings cX6_rings 2 (some .int) ∈ lw_g := lw_gin 524 rfl rfl
theorem kw_432 : Cond.instanceMethod yX6_rings ∈ lw_g := lw_gin 522 (by decide +kernel) (by decide +kernel)
theorem kw_433 : Cond.selects RX6 yX6_rings yX6_rings ∈ lw_g := lw_gin 523 (by decide +kernel) (by decide +kernel)
theorem kw_434 : Cond.fieldLink RX6 202 "MirrorWires$Foretold" "allRings" "I" ∈ lw_g := lw_gin 136 (by decide +kernel) (by decide +kernel)
set_option maxRecDepth 100000 in
theorem kw_435 : Cond.code yX6_order cX6_order 1 (some .int) ∈ lw_g := lw_gin 547 rfl rfl
theorem kw_436 : Cond.instanceMethod yX6_order ∈ lw_g := lw_gin 545 (by decide +kernel) (by decide +kernel)
theorem kw_437 : Cond.selects RX6 yX6_order yX6_order ∈ lw_g := lw_gin 546 (by decide +kernel) (by decide +kernel)
set_option maxRecDepth 100000 in
theorem kw_438 : Cond.code yX6_odd cX6_odd 1 (some .int) ∈ lw_g := lw_gin 551 rfl rfl
theorem kw_439 : Cond.instanceMethod yX6_odd ∈ lw_g := lw_gin 549 (by decide +kernel) (by decide +kernel)
theorem kw_440 : Cond.selects RX6 yX6_odd yX6_odd ∈ lw_g := lw_gin 550 (by decide +kernel) (by decide +kernel)
theorem kw_441 : Cond.methodLink RX6 208 yX1_mayChangePlaces ∈ lw_g := lw_gin 556 (by decide +kernel) (by decide +kernel)
set_option maxRecDepth 100000 in
theorem kw_442 : Cond.code yX6_alike cX6_alike 3 (some .int) ∈ lw_g := lw_gin 555 rfl rfl
theorem kw_443 : Cond.instanceMethod yX6_alike ∈ lw_g := lw_gin 553 (by decide +kernel) (by decide +kernel)
theorem kw_444 : Cond.selects RX6 yX6_alike yX6_alike ∈ lw_g := lw_gin 554 (by decide +kernel) (by decide +kernel)
theorem kw_445 : Cond.methodLink RX6 211 yX1_firstPair ∈ lw_g := lw_gin 569 (by decide +kernel) (by decide +kernel)
set_option maxRecDepth 100000 in
theorem kw_446 : Cond.code yX6_pair cX6_pair 1 (some .int) ∈ lw_g := lw_gin 568 rfl rfl
theorem kw_447 : Cond.instanceMethod yX6_pair ∈ lw_g := lw_gin 566 (by decide +kernel) (by decide +kernel)
theorem kw_448 : Cond.selects RX6 yX6_pair yX6_pair ∈ lw_g := lw_gin 567 (by decide +kernel) (by decide +kernel)
theorem kw_449 : Cond.methodLink RX6 217 yX1_turnedStates ∈ lw_g := lw_gin 586 (by decide +kernel) (by decide +kernel)
theorem kw_450 : Cond.methodLink RX6 214 yX1_hangsOn ∈ lw_g := lw_gin 582 (by decide +kernel) (by decide +kernel)
set_option maxRecDepth 100000 in
theorem kw_451 : Cond.code yX6_hangs cX6_hangs 3 (some .int) ∈ lw_g := lw_gin 581 rfl rfl
theorem kw_452 : Cond.instanceMethod yX6_hangs ∈ lw_g := lw_gin 579 (by decide +kernel) (by decide +kernel)
theorem kw_453 : Cond.selects RX6 yX6_hangs yX6_hangs ∈ lw_g := lw_gin 580 (by decide +kernel) (by decide +kernel)
theorem kw_454 : Cond.methodLink RX6 223 yX1_wayGate ∈ lw_g := lw_gin 605 (by decide +kernel) (by decide +kernel)
theorem kw_455 : Cond.methodLink RX6 220 yX1_wayLength ∈ lw_g := lw_gin 594 (by decide +kernel) (by decide +kernel)
set_option maxRecDepth 100000 in
theorem kw_456 : Cond.code yX6_way cX6_way 4 (some .int) ∈ lw_g := lw_gin 593 rfl rfl
theorem kw_457 : Cond.instanceMethod yX6_way ∈ lw_g := lw_gin 591 (by decide +kernel) (by decide +kernel)
theorem kw_458 : Cond.selects RX6 yX6_way yX6_way ∈ lw_g := lw_gin 592 (by decide +kernel) (by decide +kernel)
theorem kw_459 : Cond.methodLink RX6 227 yX1_spreadFrom ∈ lw_g := lw_gin 618 (by decide +kernel) (by decide +kernel)
set_option maxRecDepth 100000 in
theorem kw_460 : Cond.code yX6_reach cX6_reach 2 (some .int) ∈ lw_g := lw_gin 617 rfl rfl
theorem kw_461 : Cond.instanceMethod yX6_reach ∈ lw_g := lw_gin 615 (by decide +kernel) (by decide +kernel)
theorem kw_462 : Cond.selects RX6 yX6_reach yX6_reach ∈ lw_g := lw_gin 616 (by decide +kernel) (by decide +kernel)
theorem kw_463 : Cond.methodLink RX6 230 yX1_shownGates ∈ lw_g := lw_gin 623 (by decide +kernel) (by decide +kernel)
set_option maxRecDepth 100000 in
theorem kw_464 : Cond.code yX6_shows cX6_shows 2 (some .int) ∈ lw_g := lw_gin 622 rfl rfl
theorem kw_465 : Cond.instanceMethod yX6_shows ∈ lw_g := lw_gin 620 (by decide +kernel) (by decide +kernel)
theorem kw_466 : Cond.selects RX6 yX6_shows yX6_shows ∈ lw_g := lw_gin 621 (by decide +kernel) (by decide +kernel)
theorem kw_467 : Cond.methodLink RX6 233 yX1_tellingState ∈ lw_g := lw_gin 631 (by decide +kernel) (by decide +kernel)
set_option maxRecDepth 100000 in
theorem kw_468 : Cond.code yX6_telling cX6_telling 3 (some .int) ∈ lw_g := lw_gin 630 rfl rfl
theorem kw_469 : Cond.instanceMethod yX6_telling ∈ lw_g := lw_gin 628 (by decide +kernel) (by decide +kernel)
theorem kw_470 : Cond.selects RX6 yX6_telling yX6_telling ∈ lw_g := lw_gin 629 (by decide +kernel) (by decide +kernel)
theorem kw_471 : Cond.methodLink RX6 236 yX1_likelySet ∈ lw_g := lw_gin 641 (by decide +kernel) (by decide +kernel)
set_option maxRecDepth 100000 in
theorem kw_472 : Cond.code yX6_likely cX6_likely 4 (some .int) ∈ lw_g := lw_gin 640 rfl rfl
theorem kw_473 : Cond.instanceMethod yX6_likely ∈ lw_g := lw_gin 638 (by decide +kernel) (by decide +kernel)
theorem kw_474 : Cond.selects RX6 yX6_likely yX6_likely ∈ lw_g := lw_gin 639 (by decide +kernel) (by decide +kernel)
theorem kw_475 : Cond.fieldLink RX6 33 "MirrorWires" "imageNow" "LMirrorWires$Board;" ∈ lw_g := lw_gin 224 (by decide +kernel) (by decide +kernel)
theorem kw_476 : Cond.fieldLink RX6 36 "MirrorWires" "imagePast" "LMirrorWires$Past;" ∈ lw_g := lw_gin 225 (by decide +kernel) (by decide +kernel)
theorem kw_477 : Cond.methodLink RX6 240 yX3_becomes ∈ lw_g := lw_gin 653 (by decide +kernel) (by decide +kernel)
theorem kw_478 : Cond.fieldLink RX6 243 "MirrorWires" "hasImage" "Z" ∈ lw_g := lw_gin 226 (by decide +kernel) (by decide +kernel)
set_option maxRecDepth 100000 in
theorem kw_479 : Cond.code yX6_image cX6_image 1 (some .int) ∈ lw_g := lw_gin 652 rfl rfl
theorem kw_480 : Cond.instanceMethod yX6_image ∈ lw_g := lw_gin 650 (by decide +kernel) (by decide +kernel)
theorem kw_481 : Cond.selects RX6 yX6_image yX6_image ∈ lw_g := lw_gin 651 (by decide +kernel) (by decide +kernel)
set_option maxRecDepth 100000 in
theorem kw_482 : Cond.code yX6_restore cX6_restore 1 (some .int) ∈ lw_g := lw_gin 660 rfl rfl
theorem kw_483 : Cond.instanceMethod yX6_restore ∈ lw_g := lw_gin 658 (by decide +kernel) (by decide +kernel)
theorem kw_484 : Cond.selects RX6 yX6_restore yX6_restore ∈ lw_g := lw_gin 659 (by decide +kernel) (by decide +kernel)
set_option maxRecDepth 100000 in
theorem kw_485 : Cond.code yX6_areStates cX6_areStates 4 (some .boolean) ∈ lw_g := lw_gin 668 rfl rfl
theorem kw_486 : Cond.instanceMethod yX6_areStates ∈ lw_g := lw_gin 667 (by decide +kernel) (by decide +kernel)
theorem kw_487 : Cond.selects RX6 yX6_areStates yX6_areStates ∈ lw_g := lw_gin 18 (by decide +kernel) (by decide +kernel)
set_option maxRecDepth 100000 in
theorem kw_488 : Cond.code yX6_isSheet cX6_isSheet 1 (some .boolean) ∈ lw_g := lw_gin 674 rfl rfl
theorem kw_489 : Cond.static yX6_isSheet ∈ lw_g := lw_gin 673 (by decide +kernel) (by decide +kernel)
theorem kw_490 : Cond.methodLink RX6 276 yX6_isSheet ∈ lw_g := lw_gin 672 (by decide +kernel) (by decide +kernel)
set_option maxRecDepth 100000 in
theorem kw_491 : Cond.code yX6_isLaneOfSheet cX6_isLaneOfSheet 2 (some .boolean) ∈ lw_g := lw_gin 671 rfl rfl
theorem kw_492 : Cond.static yX6_isLaneOfSheet ∈ lw_g := lw_gin 670 (by decide +kernel) (by decide +kernel)
theorem kw_493 : Cond.methodLink RX6 247 yX6_areStates ∈ lw_g := lw_gin 665 (by decide +kernel) (by decide +kernel)
theorem kw_494 : Cond.methodLink RX6 251 yX6_isLaneOfSheet ∈ lw_g := lw_gin 669 (by decide +kernel) (by decide +kernel)
theorem kw_495 : Cond.fieldLink RX6 51 "MirrorWires" "sheets" "[LMirrorWires$Sheet;" ∈ lw_g := lw_gin 229 (by decide +kernel) (by decide +kernel)
theorem kw_496 : Cond.methodLink RX6 254 yX4_faultOf ∈ lw_g := lw_gin 675 (by decide +kernel) (by decide +kernel)
theorem kw_497 : Cond.methodLink RX6 264 yX1_kindsBy ∈ lw_g := lw_gin 700 (by decide +kernel) (by decide +kernel)
theorem kw_498 : Cond.methodLink RX6 261 yX1_runsBy ∈ lw_g := lw_gin 696 (by decide +kernel) (by decide +kernel)
theorem kw_499 : Cond.methodLink RX6 257 yX1_deathsBy ∈ lw_g := lw_gin 683 (by decide +kernel) (by decide +kernel)
set_option maxRecDepth 100000 in
theorem kw_500 : Cond.code yX6_came cX6_came 9 (some .int) ∈ lw_g := lw_gin 664 rfl rfl
theorem kw_501 : Cond.instanceMethod yX6_came ∈ lw_g := lw_gin 662 (by decide +kernel) (by decide +kernel)
theorem kw_502 : Cond.selects RX6 yX6_came yX6_came ∈ lw_g := lw_gin 663 (by decide +kernel) (by decide +kernel)
theorem kw_503 : Cond.methodLink RX6 268 yX4_put ∈ lw_g := lw_gin 713 (by decide +kernel) (by decide +kernel)
set_option maxRecDepth 100000 in
theorem kw_504 : Cond.code yX6_film cX6_film 9 (some .int) ∈ lw_g := lw_gin 712 rfl rfl
theorem kw_505 : Cond.instanceMethod yX6_film ∈ lw_g := lw_gin 710 (by decide +kernel) (by decide +kernel)
theorem kw_506 : Cond.selects RX6 yX6_film yX6_film ∈ lw_g := lw_gin 711 (by decide +kernel) (by decide +kernel)
theorem kw_507 : Cond.methodLink RX6 272 yX4_begin ∈ lw_g := lw_gin 725 (by decide +kernel) (by decide +kernel)
set_option maxRecDepth 100000 in
theorem kw_508 : Cond.code yX6_sheet cX6_sheet 4 (some .int) ∈ lw_g := lw_gin 724 rfl rfl
theorem kw_509 : Cond.instanceMethod yX6_sheet ∈ lw_g := lw_gin 722 (by decide +kernel) (by decide +kernel)
theorem kw_510 : Cond.selects RX6 yX6_sheet yX6_sheet ∈ lw_g := lw_gin 723 (by decide +kernel) (by decide +kernel)
theorem kw_511 : Cond.fieldLink RX6 279 "MirrorWires$Sheet" "there" "Z" ∈ lw_g := lw_gin 203 (by decide +kernel) (by decide +kernel)
theorem kw_512 : Cond.fieldLink RX6 282 "MirrorWires$Sheet" "size" "I" ∈ lw_g := lw_gin 207 (by decide +kernel) (by decide +kernel)
set_option maxRecDepth 100000 in
theorem kw_513 : Cond.code yX6_drop cX6_drop 3 (some .int) ∈ lw_g := lw_gin 735 rfl rfl
theorem kw_514 : Cond.instanceMethod yX6_drop ∈ lw_g := lw_gin 733 (by decide +kernel) (by decide +kernel)
theorem kw_515 : Cond.selects RX6 yX6_drop yX6_drop ∈ lw_g := lw_gin 734 (by decide +kernel) (by decide +kernel)
set_option maxRecDepth 100000 in
theorem kw_516 : Cond.code yX6_item cX6_item 8 (some .int) ∈ lw_g := lw_gin 739 rfl rfl
theorem kw_517 : Cond.instanceMethod yX6_item ∈ lw_g := lw_gin 737 (by decide +kernel) (by decide +kernel)
theorem kw_518 : Cond.selects RX6 yX6_item yX6_item ∈ lw_g := lw_gin 738 (by decide +kernel) (by decide +kernel)
theorem kw_519 : Cond.fieldLink RX6 285 "MirrorWires$Sheet" "lane" "I" ∈ lw_g := lw_gin 205 (by decide +kernel) (by decide +kernel)
theorem kw_520 : Cond.methodLink RX6 288 yX4_spans ∈ lw_g := lw_gin 744 (by decide +kernel) (by decide +kernel)
theorem kw_521 : Cond.fieldLink RX6 291 "MirrorWires$Sheet" "items" "[J" ∈ lw_g := lw_gin 210 (by decide +kernel) (by decide +kernel)
theorem kw_522 : Cond.methodLink RX6 295 arraycopyName ∈ lw_g := lw_gin 745 (by decide +kernel) (by decide +kernel)
set_option maxRecDepth 100000 in
theorem kw_523 : Cond.code yX6_copy cX6_copy 8 (some .int) ∈ lw_g := lw_gin 743 rfl rfl
theorem kw_524 : Cond.instanceMethod yX6_copy ∈ lw_g := lw_gin 741 (by decide +kernel) (by decide +kernel)
theorem kw_525 : Cond.selects RX6 yX6_copy yX6_copy ∈ lw_g := lw_gin 742 (by decide +kernel) (by decide +kernel)
set_option maxRecDepth 100000 in
theorem kw_526 : Cond.code yX7_in cX7_in 3 (some .boolean) ∈ lw_g := lw_gin 804 rfl rfl
theorem kw_527 : Cond.initialized RX7 ∈ lw_g := lw_gin 66 (by decide +kernel) (by decide +kernel)
theorem kw_528 : Cond.static yX7_in ∈ lw_g := lw_gin 803 (by decide +kernel) (by decide +kernel)
set_option maxRecDepth 100000 in
theorem kw_529 : Cond.code yX7_has cX7_has 2 (some .boolean) ∈ lw_g := lw_gin 856 rfl rfl
theorem kw_530 : Cond.static yX7_has ∈ lw_g := lw_gin 855 (by decide +kernel) (by decide +kernel)
set_option maxRecDepth 100000 in
theorem kw_531 : Cond.code yX7_bits cX7_bits 3 (some .int) ∈ lw_g := lw_gin 917 rfl rfl
theorem kw_532 : Cond.static yX7_bits ∈ lw_g := lw_gin 916 (by decide +kernel) (by decide +kernel)
theorem kw_533 : Cond.fieldLink RX7 7 "MirrorWiresModel" "w" "[I" ∈ lw_g := lw_gin 752 (by decide +kernel) (by decide +kernel)
set_option maxRecDepth 100000 in
theorem kw_534 : Cond.code yX7_copyRow cX7_copyRow 5 none ∈ lw_g := lw_gin 929 rfl rfl
theorem kw_535 : Cond.instanceMethod yX7_copyRow ∈ lw_g := lw_gin 928 (by decide +kernel) (by decide +kernel)
theorem kw_536 : Cond.selects RX7 yX7_copyRow yX7_copyRow ∈ lw_g := lw_gin 39 (by decide +kernel) (by decide +kernel)
set_option maxRecDepth 100000 in
theorem kw_537 : Cond.code yX7_states cX7_states 1 (some .int) ∈ lw_g := lw_gin 846 rfl rfl
theorem kw_538 : Cond.instanceMethod yX7_states ∈ lw_g := lw_gin 845 (by decide +kernel) (by decide +kernel)
theorem kw_539 : Cond.selects RX7 yX7_states yX7_states ∈ lw_g := lw_gin 26 (by decide +kernel) (by decide +kernel)
theorem kw_540 : Cond.methodLink RX7 38 yX7_states ∈ lw_g := lw_gin 843 (by decide +kernel) (by decide +kernel)
theorem kw_541 : Cond.methodLink RX7 42 yX7_in ∈ lw_g := lw_gin 802 (by decide +kernel) (by decide +kernel)
set_option maxRecDepth 100000 in
theorem kw_542 : Cond.code yX7_isState cX7_isState 2 (some .boolean) ∈ lw_g := lw_gin 842 rfl rfl
theorem kw_543 : Cond.instanceMethod yX7_isState ∈ lw_g := lw_gin 841 (by decide +kernel) (by decide +kernel)
theorem kw_544 : Cond.selects RX7 yX7_isState yX7_isState ∈ lw_g := lw_gin 25 (by decide +kernel) (by decide +kernel)
set_option maxRecDepth 100000 in
theorem kw_545 : Cond.code yX7_isWire cX7_isWire 2 (some .boolean) ∈ lw_g := lw_gin 816 rfl rfl
theorem kw_546 : Cond.instanceMethod yX7_isWire ∈ lw_g := lw_gin 815 (by decide +kernel) (by decide +kernel)
theorem kw_547 : Cond.selects RX7 yX7_isWire yX7_isWire ∈ lw_g := lw_gin 22 (by decide +kernel) (by decide +kernel)
set_option maxRecDepth 100000 in
theorem kw_548 : Cond.code yX7_isGate cX7_isGate 2 (some .boolean) ∈ lw_g := lw_gin 834 rfl rfl
theorem kw_549 : Cond.instanceMethod yX7_isGate ∈ lw_g := lw_gin 833 (by decide +kernel) (by decide +kernel)
theorem kw_550 : Cond.selects RX7 yX7_isGate yX7_isGate ∈ lw_g := lw_gin 24 (by decide +kernel) (by decide +kernel)
set_option maxRecDepth 100000 in
theorem kw_551 : Cond.code yX7_wiresOf cX7_wiresOf 1 (some .int) ∈ lw_g := lw_gin 819 rfl rfl
theorem kw_552 : Cond.static yX7_wiresOf ∈ lw_g := lw_gin 818 (by decide +kernel) (by decide +kernel)
set_option maxRecDepth 100000 in
theorem kw_553 : Cond.code yX7_areUnlike cX7_areUnlike 4 (some .boolean) ∈ lw_g := lw_gin 822 rfl rfl
theorem kw_554 : Cond.static yX7_areUnlike ∈ lw_g := lw_gin 821 (by decide +kernel) (by decide +kernel)
set_option maxRecDepth 100000 in
theorem kw_555 : Cond.code yX7_clear cX7_clear 4 none ∈ lw_g := lw_gin 808 rfl rfl
theorem kw_556 : Cond.instanceMethod yX7_clear ∈ lw_g := lw_gin 807 (by decide +kernel) (by decide +kernel)
theorem kw_557 : Cond.selects RX7 yX7_clear yX7_clear ∈ lw_g := lw_gin 21 (by decide +kernel) (by decide +kernel)
theorem kw_558 : Cond.methodLink RX7 46 yX7_clear ∈ lw_g := lw_gin 805 (by decide +kernel) (by decide +kernel)
set_option maxRecDepth 100000 in
theorem kw_559 : Cond.code yX7_wires cX7_wires 3 (some .int) ∈ lw_g := lw_gin 801 rfl rfl
theorem kw_560 : Cond.instanceMethod yX7_wires ∈ lw_g := lw_gin 799 (by decide +kernel) (by decide +kernel)
theorem kw_561 : Cond.selects RX7 yX7_wires yX7_wires ∈ lw_g := lw_gin 800 (by decide +kernel) (by decide +kernel)
set_option maxRecDepth 100000 in
theorem kw_562 : Cond.code yX7_put cX7_put 8 (some .int) ∈ lw_g := lw_gin 826 rfl rfl
theorem kw_563 : Cond.instanceMethod yX7_put ∈ lw_g := lw_gin 825 (by decide +kernel) (by decide +kernel)
theorem kw_564 : Cond.selects RX7 yX7_put yX7_put ∈ lw_g := lw_gin 23 (by decide +kernel) (by decide +kernel)
theorem kw_565 : Cond.methodLink RX7 62 yX7_put ∈ lw_g := lw_gin 823 (by decide +kernel) (by decide +kernel)
theorem kw_566 : Cond.methodLink RX7 50 yX7_isWire ∈ lw_g := lw_gin 813 (by decide +kernel) (by decide +kernel)
theorem kw_567 : Cond.methodLink RX7 54 yX7_wiresOf ∈ lw_g := lw_gin 817 (by decide +kernel) (by decide +kernel)
theorem kw_568 : Cond.methodLink RX7 58 yX7_areUnlike ∈ lw_g := lw_gin 820 (by decide +kernel) (by decide +kernel)
set_option maxRecDepth 100000 in
theorem kw_569 : Cond.code yX7_gate cX7_gate 6 (some .int) ∈ lw_g := lw_gin 812 rfl rfl
theorem kw_570 : Cond.instanceMethod yX7_gate ∈ lw_g := lw_gin 810 (by decide +kernel) (by decide +kernel)
theorem kw_571 : Cond.selects RX7 yX7_gate yX7_gate ∈ lw_g := lw_gin 811 (by decide +kernel) (by decide +kernel)
theorem kw_572 : Cond.methodLink RX7 66 yX7_isGate ∈ lw_g := lw_gin 831 (by decide +kernel) (by decide +kernel)
set_option maxRecDepth 100000 in
theorem kw_573 : Cond.code yX7_of cX7_of 3 (some .int) ∈ lw_g := lw_gin 830 rfl rfl
theorem kw_574 : Cond.instanceMethod yX7_of ∈ lw_g := lw_gin 828 (by decide +kernel) (by decide +kernel)
theorem kw_575 : Cond.selects RX7 yX7_of yX7_of ∈ lw_g := lw_gin 829 (by decide +kernel) (by decide +kernel)
theorem kw_576 : Cond.methodLink RX7 69 yX7_has ∈ lw_g := lw_gin 854 (by decide +kernel) (by decide +kernel)
set_option maxRecDepth 100000 in
theorem kw_577 : Cond.code yX7_changed cX7_changed 4 (some .int) ∈ lw_g := lw_gin 859 rfl rfl
theorem kw_578 : Cond.static yX7_changed ∈ lw_g := lw_gin 858 (by decide +kernel) (by decide +kernel)
theorem kw_579 : Cond.methodLink RX7 73 yX7_changed ∈ lw_g := lw_gin 857 (by decide +kernel) (by decide +kernel)
set_option maxRecDepth 100000 in
theorem kw_580 : Cond.code yX7_doneBy cX7_doneBy 5 (some .int) ∈ lw_g := lw_gin 853 rfl rfl
theorem kw_581 : Cond.static yX7_doneBy ∈ lw_g := lw_gin 852 (by decide +kernel) (by decide +kernel)
theorem kw_582 : Cond.methodLink RX7 77 yX7_doneBy ∈ lw_g := lw_gin 851 (by decide +kernel) (by decide +kernel)
set_option maxRecDepth 100000 in
theorem kw_583 : Cond.code yX7_doneIn cX7_doneIn 5 (some .int) ∈ lw_g := lw_gin 850 rfl rfl
theorem kw_584 : Cond.instanceMethod yX7_doneIn ∈ lw_g := lw_gin 849 (by decide +kernel) (by decide +kernel)
theorem kw_585 : Cond.selects RX7 yX7_doneIn yX7_doneIn ∈ lw_g := lw_gin 27 (by decide +kernel) (by decide +kernel)
theorem kw_586 : Cond.methodLink RX7 80 yX7_isState ∈ lw_g := lw_gin 839 (by decide +kernel) (by decide +kernel)
theorem kw_587 : Cond.methodLink RX7 83 yX7_doneIn ∈ lw_g := lw_gin 847 (by decide +kernel) (by decide +kernel)
set_option maxRecDepth 100000 in
theorem kw_588 : Cond.code yX7_does cX7_does 3 (some .int) ∈ lw_g := lw_gin 838 rfl rfl
theorem kw_589 : Cond.instanceMethod yX7_does ∈ lw_g := lw_gin 836 (by decide +kernel) (by decide +kernel)
theorem kw_590 : Cond.selects RX7 yX7_does yX7_does ∈ lw_g := lw_gin 837 (by decide +kernel) (by decide +kernel)
theorem kw_591 : Cond.fieldLink RX7 86 "MirrorWiresModel" "taped" "I" ∈ lw_g := lw_gin 755 (by decide +kernel) (by decide +kernel)
theorem kw_592 : Cond.fieldLink RX7 13 "MirrorWiresModel" "tape" "[I" ∈ lw_g := lw_gin 754 (by decide +kernel) (by decide +kernel)
set_option maxRecDepth 100000 in
theorem kw_593 : Cond.code yX7_type cX7_type 2 (some .int) ∈ lw_g := lw_gin 863 rfl rfl
theorem kw_594 : Cond.instanceMethod yX7_type ∈ lw_g := lw_gin 861 (by decide +kernel) (by decide +kernel)
theorem kw_595 : Cond.selects RX7 yX7_type yX7_type ∈ lw_g := lw_gin 862 (by decide +kernel) (by decide +kernel)
theorem kw_596 : Cond.fieldLink RX7 90 "MirrorWiresModel" "at" "I" ∈ lw_g := lw_gin 760 (by decide +kernel) (by decide +kernel)
set_option maxRecDepth 100000 in
theorem kw_597 : Cond.code yX7_here cX7_here 1 (some .int) ∈ lw_g := lw_gin 879 rfl rfl
theorem kw_598 : Cond.instanceMethod yX7_here ∈ lw_g := lw_gin 878 (by decide +kernel) (by decide +kernel)
theorem kw_599 : Cond.selects RX7 yX7_here yX7_here ∈ lw_g := lw_gin 30 (by decide +kernel) (by decide +kernel)
theorem kw_600 : Cond.fieldLink RX7 93 "MirrorWiresModel" "wrong" "I" ∈ lw_g := lw_gin 761 (by decide +kernel) (by decide +kernel)
set_option maxRecDepth 100000 in
theorem kw_601 : Cond.code yX7_fine cX7_fine 1 (some .boolean) ∈ lw_g := lw_gin 887 rfl rfl
theorem kw_602 : Cond.instanceMethod yX7_fine ∈ lw_g := lw_gin 886 (by decide +kernel) (by decide +kernel)
theorem kw_603 : Cond.selects RX7 yX7_fine yX7_fine ∈ lw_g := lw_gin 32 (by decide +kernel) (by decide +kernel)
theorem kw_604 : Cond.methodLink RX7 96 yX7_fine ∈ lw_g := lw_gin 884 (by decide +kernel) (by decide +kernel)
set_option maxRecDepth 100000 in
theorem kw_605 : Cond.code yX7_fault cX7_fault 2 none ∈ lw_g := lw_gin 883 rfl rfl
theorem kw_606 : Cond.instanceMethod yX7_fault ∈ lw_g := lw_gin 882 (by decide +kernel) (by decide +kernel)
theorem kw_607 : Cond.selects RX7 yX7_fault yX7_fault ∈ lw_g := lw_gin 31 (by decide +kernel) (by decide +kernel)
theorem kw_608 : Cond.methodLink RX7 100 yX7_here ∈ lw_g := lw_gin 876 (by decide +kernel) (by decide +kernel)
theorem kw_609 : Cond.methodLink RX7 103 yX7_fault ∈ lw_g := lw_gin 880 (by decide +kernel) (by decide +kernel)
set_option maxRecDepth 100000 in
theorem kw_610 : Cond.code yX7_need cX7_need 2 none ∈ lw_g := lw_gin 895 rfl rfl
theorem kw_611 : Cond.instanceMethod yX7_need ∈ lw_g := lw_gin 894 (by decide +kernel) (by decide +kernel)
theorem kw_612 : Cond.selects RX7 yX7_need yX7_need ∈ lw_g := lw_gin 34 (by decide +kernel) (by decide +kernel)
set_option maxRecDepth 100000 in
theorem kw_613 : Cond.code yX7_digit cX7_digit 4 (some .int) ∈ lw_g := lw_gin 875 rfl rfl
theorem kw_614 : Cond.instanceMethod yX7_digit ∈ lw_g := lw_gin 874 (by decide +kernel) (by decide +kernel)
theorem kw_615 : Cond.selects RX7 yX7_digit yX7_digit ∈ lw_g := lw_gin 29 (by decide +kernel) (by decide +kernel)
theorem kw_616 : Cond.fieldLink RX7 106 "MirrorWiresModel" "readBits" "I" ∈ lw_g := lw_gin 762 (by decide +kernel) (by decide +kernel)
set_option maxRecDepth 100000 in
theorem kw_617 : Cond.code yX7_readState cX7_readState 4 none ∈ lw_g := lw_gin 891 rfl rfl
theorem kw_618 : Cond.instanceMethod yX7_readState ∈ lw_g := lw_gin 890 (by decide +kernel) (by decide +kernel)
theorem kw_619 : Cond.selects RX7 yX7_readState yX7_readState ∈ lw_g := lw_gin 33 (by decide +kernel) (by decide +kernel)
set_option maxRecDepth 100000 in
theorem kw_620 : Cond.code yX7_kindOf cX7_kindOf 1 (some .int) ∈ lw_g := lw_gin 906 rfl rfl
theorem kw_621 : Cond.static yX7_kindOf ∈ lw_g := lw_gin 905 (by decide +kernel) (by decide +kernel)
theorem kw_622 : Cond.fieldLink RX7 29 "MirrorWiresModel" "read" "[I" ∈ lw_g := lw_gin 764 (by decide +kernel) (by decide +kernel)
theorem kw_623 : Cond.fieldLink RX7 116 "MirrorWiresModel" "readMany" "I" ∈ lw_g := lw_gin 763 (by decide +kernel) (by decide +kernel)
theorem kw_624 : Cond.fieldLink RX7 32 "MirrorWiresModel" "told" "[I" ∈ lw_g := lw_gin 765 (by decide +kernel) (by decide +kernel)
theorem kw_625 : Cond.methodLink RX7 112 yX7_digit ∈ lw_g := lw_gin 872 (by decide +kernel) (by decide +kernel)
theorem kw_626 : Cond.methodLink RX7 109 yX7_kindOf ∈ lw_g := lw_gin 904 (by decide +kernel) (by decide +kernel)
set_option maxRecDepth 100000 in
theorem kw_627 : Cond.code yX7_readGate cX7_readGate 6 none ∈ lw_g := lw_gin 903 rfl rfl
theorem kw_628 : Cond.instanceMethod yX7_readGate ∈ lw_g := lw_gin 902 (by decide +kernel) (by decide +kernel)
theorem kw_629 : Cond.selects RX7 yX7_readGate yX7_readGate ∈ lw_g := lw_gin 36 (by decide +kernel) (by decide +kernel)
theorem kw_630 : Cond.methodLink RX7 122 yX7_need ∈ lw_g := lw_gin 892 (by decide +kernel) (by decide +kernel)
theorem kw_631 : Cond.methodLink RX7 119 yX7_readState ∈ lw_g := lw_gin 888 (by decide +kernel) (by decide +kernel)
set_option maxRecDepth 100000 in
theorem kw_632 : Cond.code yX7_readWires cX7_readWires 2 (some .int) ∈ lw_g := lw_gin 871 rfl rfl
theorem kw_633 : Cond.instanceMethod yX7_readWires ∈ lw_g := lw_gin 870 (by decide +kernel) (by decide +kernel)
theorem kw_634 : Cond.selects RX7 yX7_readWires yX7_readWires ∈ lw_g := lw_gin 28 (by decide +kernel) (by decide +kernel)
theorem kw_635 : Cond.methodLink RX7 125 yX7_readGate ∈ lw_g := lw_gin 900 (by decide +kernel) (by decide +kernel)
set_option maxRecDepth 100000 in
theorem kw_636 : Cond.code yX7_readGates cX7_readGates 3 none ∈ lw_g := lw_gin 899 rfl rfl
theorem kw_637 : Cond.instanceMethod yX7_readGates ∈ lw_g := lw_gin 898 (by decide +kernel) (by decide +kernel)
theorem kw_638 : Cond.selects RX7 yX7_readGates yX7_readGates ∈ lw_g := lw_gin 35 (by decide +kernel) (by decide +kernel)
theorem kw_639 : Cond.methodLink RX7 128 yX7_readWires ∈ lw_g := lw_gin 868 (by decide +kernel) (by decide +kernel)
theorem kw_640 : Cond.methodLink RX7 131 yX7_readGates ∈ lw_g := lw_gin 896 (by decide +kernel) (by decide +kernel)
set_option maxRecDepth 100000 in
theorem kw_641 : Cond.code yX7_circuit cX7_circuit 5 (some .int) ∈ lw_g := lw_gin 867 rfl rfl
theorem kw_642 : Cond.instanceMethod yX7_circuit ∈ lw_g := lw_gin 865 (by decide +kernel) (by decide +kernel)
theorem kw_643 : Cond.selects RX7 yX7_circuit yX7_circuit ∈ lw_g := lw_gin 866 (by decide +kernel) (by decide +kernel)
set_option maxRecDepth 100000 in
theorem kw_644 : Cond.code yX7_dead cX7_dead 3 (some .int) ∈ lw_g := lw_gin 914 rfl rfl
theorem kw_645 : Cond.instanceMethod yX7_dead ∈ lw_g := lw_gin 913 (by decide +kernel) (by decide +kernel)
theorem kw_646 : Cond.selects RX7 yX7_dead yX7_dead ∈ lw_g := lw_gin 37 (by decide +kernel) (by decide +kernel)
theorem kw_647 : Cond.methodLink RX7 134 yX7_dead ∈ lw_g := lw_gin 911 (by decide +kernel) (by decide +kernel)
theorem kw_648 : Cond.methodLink RX7 137 yX7_bits ∈ lw_g := lw_gin 915 (by decide +kernel) (by decide +kernel)
set_option maxRecDepth 100000 in
theorem kw_649 : Cond.code yX7_count cX7_count 2 (some .int) ∈ lw_g := lw_gin 910 rfl rfl
theorem kw_650 : Cond.instanceMethod yX7_count ∈ lw_g := lw_gin 908 (by decide +kernel) (by decide +kernel)
theorem kw_651 : Cond.selects RX7 yX7_count yX7_count ∈ lw_g := lw_gin 909 (by decide +kernel) (by decide +kernel)
theorem kw_652 : Cond.methodLink RX7 140 yX7_copyRow ∈ lw_g := lw_gin 926 (by decide +kernel) (by decide +kernel)
set_option maxRecDepth 100000 in
theorem kw_653 : Cond.code yX7_remember cX7_remember 2 none ∈ lw_g := lw_gin 925 rfl rfl
theorem kw_654 : Cond.instanceMethod yX7_remember ∈ lw_g := lw_gin 924 (by decide +kernel) (by decide +kernel)
theorem kw_655 : Cond.selects RX7 yX7_remember yX7_remember ∈ lw_g := lw_gin 38 (by decide +kernel) (by decide +kernel)
set_option maxRecDepth 100000 in
theorem kw_656 : Cond.code yX7_stepOn cX7_stepOn 1 none ∈ lw_g := lw_gin 933 rfl rfl
theorem kw_657 : Cond.instanceMethod yX7_stepOn ∈ lw_g := lw_gin 932 (by decide +kernel) (by decide +kernel)
theorem kw_658 : Cond.selects RX7 yX7_stepOn yX7_stepOn ∈ lw_g := lw_gin 40 (by decide +kernel) (by decide +kernel)
theorem kw_659 : Cond.methodLink RX7 144 yX7_remember ∈ lw_g := lw_gin 922 (by decide +kernel) (by decide +kernel)
theorem kw_660 : Cond.methodLink RX7 147 yX7_stepOn ∈ lw_g := lw_gin 930 (by decide +kernel) (by decide +kernel)
set_option maxRecDepth 100000 in
theorem kw_661 : Cond.code yX7_step cX7_step 3 (some .int) ∈ lw_g := lw_gin 921 rfl rfl
theorem kw_662 : Cond.instanceMethod yX7_step ∈ lw_g := lw_gin 919 (by decide +kernel) (by decide +kernel)
theorem kw_663 : Cond.selects RX7 yX7_step yX7_step ∈ lw_g := lw_gin 920 (by decide +kernel) (by decide +kernel)
set_option maxRecDepth 100000 in
theorem kw_664 : Cond.code yX7_back cX7_back 3 (some .int) ∈ lw_g := lw_gin 937 rfl rfl
theorem kw_665 : Cond.instanceMethod yX7_back ∈ lw_g := lw_gin 935 (by decide +kernel) (by decide +kernel)
theorem kw_666 : Cond.selects RX7 yX7_back yX7_back ∈ lw_g := lw_gin 936 (by decide +kernel) (by decide +kernel)
set_option maxRecDepth 100000 in
theorem kw_667 : Cond.code yX7_home cX7_home 2 (some .int) ∈ lw_g := lw_gin 941 rfl rfl
theorem kw_668 : Cond.instanceMethod yX7_home ∈ lw_g := lw_gin 939 (by decide +kernel) (by decide +kernel)
theorem kw_669 : Cond.selects RX7 yX7_home yX7_home ∈ lw_g := lw_gin 940 (by decide +kernel) (by decide +kernel)
set_option maxRecDepth 100000 in
theorem kw_670 : Cond.code yX7_flip cX7_flip 2 (some .int) ∈ lw_g := lw_gin 945 rfl rfl
theorem kw_671 : Cond.instanceMethod yX7_flip ∈ lw_g := lw_gin 943 (by decide +kernel) (by decide +kernel)
theorem kw_672 : Cond.selects RX7 yX7_flip yX7_flip ∈ lw_g := lw_gin 944 (by decide +kernel) (by decide +kernel)
set_option maxRecDepth 100000 in
theorem kw_673 : Cond.code yX7_deaden cX7_deaden 3 (some .int) ∈ lw_g := lw_gin 953 rfl rfl
theorem kw_674 : Cond.instanceMethod yX7_deaden ∈ lw_g := lw_gin 952 (by decide +kernel) (by decide +kernel)
theorem kw_675 : Cond.selects RX7 yX7_deaden yX7_deaden ∈ lw_g := lw_gin 41 (by decide +kernel) (by decide +kernel)
theorem kw_676 : Cond.methodLink RX7 150 yX7_deaden ∈ lw_g := lw_gin 950 (by decide +kernel) (by decide +kernel)
set_option maxRecDepth 100000 in
theorem kw_677 : Cond.code yX7_kill cX7_kill 2 (some .int) ∈ lw_g := lw_gin 949 rfl rfl
theorem kw_678 : Cond.instanceMethod yX7_kill ∈ lw_g := lw_gin 947 (by decide +kernel) (by decide +kernel)
theorem kw_679 : Cond.selects RX7 yX7_kill yX7_kill ∈ lw_g := lw_gin 948 (by decide +kernel) (by decide +kernel)
set_option maxRecDepth 100000 in
theorem kw_680 : Cond.code yX7_heal cX7_heal 2 (some .int) ∈ lw_g := lw_gin 957 rfl rfl
theorem kw_681 : Cond.instanceMethod yX7_heal ∈ lw_g := lw_gin 955 (by decide +kernel) (by decide +kernel)
theorem kw_682 : Cond.selects RX7 yX7_heal yX7_heal ∈ lw_g := lw_gin 956 (by decide +kernel) (by decide +kernel)
set_option maxRecDepth 100000 in
theorem kw_683 : Cond.code yX7_swapIn cX7_swapIn 6 none ∈ lw_g := lw_gin 965 rfl rfl
theorem kw_684 : Cond.instanceMethod yX7_swapIn ∈ lw_g := lw_gin 964 (by decide +kernel) (by decide +kernel)
theorem kw_685 : Cond.selects RX7 yX7_swapIn yX7_swapIn ∈ lw_g := lw_gin 42 (by decide +kernel) (by decide +kernel)
theorem kw_686 : Cond.methodLink RX7 153 yX7_swapIn ∈ lw_g := lw_gin 962 (by decide +kernel) (by decide +kernel)
set_option maxRecDepth 100000 in
theorem kw_687 : Cond.code yX7_move cX7_move 3 (some .int) ∈ lw_g := lw_gin 961 rfl rfl
theorem kw_688 : Cond.instanceMethod yX7_move ∈ lw_g := lw_gin 959 (by decide +kernel) (by decide +kernel)
theorem kw_689 : Cond.selects RX7 yX7_move yX7_move ∈ lw_g := lw_gin 960 (by decide +kernel) (by decide +kernel)
theorem kw_690 : Cond.constantLong RX7 156 1103515245 ∈ lw_g := lw_gin 970 (by decide +kernel) (by decide +kernel)
theorem kw_691 : Cond.constantLong RX7 158 12345 ∈ lw_g := lw_gin 971 (by decide +kernel) (by decide +kernel)
theorem kw_692 : Cond.constantLong RX7 160 2147483647 ∈ lw_g := lw_gin 972 (by decide +kernel) (by decide +kernel)
theorem kw_693 : Cond.constant RX7 162 65536 ∈ lw_g := lw_gin 973 (by decide +kernel) (by decide +kernel)
set_option maxRecDepth 100000 in
theorem kw_694 : Cond.code yX7_drift cX7_drift 3 (some .int) ∈ lw_g := lw_gin 969 rfl rfl
theorem kw_695 : Cond.instanceMethod yX7_drift ∈ lw_g := lw_gin 967 (by decide +kernel) (by decide +kernel)
theorem kw_696 : Cond.selects RX7 yX7_drift yX7_drift ∈ lw_g := lw_gin 968 (by decide +kernel) (by decide +kernel)
set_option maxRecDepth 100000 in
theorem kw_697 : Cond.code yX7_undo cX7_undo 1 (some .int) ∈ lw_g := lw_gin 977 rfl rfl
theorem kw_698 : Cond.instanceMethod yX7_undo ∈ lw_g := lw_gin 975 (by decide +kernel) (by decide +kernel)
theorem kw_699 : Cond.selects RX7 yX7_undo yX7_undo ∈ lw_g := lw_gin 976 (by decide +kernel) (by decide +kernel)
set_option maxRecDepth 100000 in
theorem kw_700 : Cond.code yX7_seed cX7_seed 3 (some .int) ∈ lw_g := lw_gin 981 rfl rfl
theorem kw_701 : Cond.instanceMethod yX7_seed ∈ lw_g := lw_gin 979 (by decide +kernel) (by decide +kernel)
theorem kw_702 : Cond.selects RX7 yX7_seed yX7_seed ∈ lw_g := lw_gin 980 (by decide +kernel) (by decide +kernel)
set_option maxRecDepth 100000 in
theorem kw_703 : Cond.code yX7_runIn cX7_runIn 5 (some .int) ∈ lw_g := lw_gin 989 rfl rfl
theorem kw_704 : Cond.instanceMethod yX7_runIn ∈ lw_g := lw_gin 988 (by decide +kernel) (by decide +kernel)
theorem kw_705 : Cond.selects RX7 yX7_runIn yX7_runIn ∈ lw_g := lw_gin 43 (by decide +kernel) (by decide +kernel)
theorem kw_706 : Cond.fieldLink RX7 26 "MirrorWiresModel" "to" "[I" ∈ lw_g := lw_gin 759 (by decide +kernel) (by decide +kernel)
theorem kw_707 : Cond.methodLink RX7 163 yX7_runIn ∈ lw_g := lw_gin 986 (by decide +kernel) (by decide +kernel)
set_option maxRecDepth 100000 in
theorem kw_708 : Cond.code yX7_layRuns cX7_layRuns 2 none ∈ lw_g := lw_gin 998 rfl rfl
theorem kw_709 : Cond.instanceMethod yX7_layRuns ∈ lw_g := lw_gin 997 (by decide +kernel) (by decide +kernel)
theorem kw_710 : Cond.selects RX7 yX7_layRuns yX7_layRuns ∈ lw_g := lw_gin 44 (by decide +kernel) (by decide +kernel)
set_option maxRecDepth 100000 in
theorem kw_711 : Cond.code yX7_goes cX7_goes 5 (some .int) ∈ lw_g := lw_gin 985 rfl rfl
theorem kw_712 : Cond.instanceMethod yX7_goes ∈ lw_g := lw_gin 983 (by decide +kernel) (by decide +kernel)
theorem kw_713 : Cond.selects RX7 yX7_goes yX7_goes ∈ lw_g := lw_gin 984 (by decide +kernel) (by decide +kernel)
set_option maxRecDepth 100000 in
theorem kw_714 : Cond.code yX7_ringOf cX7_ringOf 4 (some .int) ∈ lw_g := lw_gin 1002 rfl rfl
theorem kw_715 : Cond.instanceMethod yX7_ringOf ∈ lw_g := lw_gin 1001 (by decide +kernel) (by decide +kernel)
theorem kw_716 : Cond.selects RX7 yX7_ringOf yX7_ringOf ∈ lw_g := lw_gin 45 (by decide +kernel) (by decide +kernel)
theorem kw_717 : Cond.constant RX7 166 2000000000 ∈ lw_g := lw_gin 994 (by decide +kernel) (by decide +kernel)
theorem kw_718 : Cond.methodLink RX7 167 yX7_layRuns ∈ lw_g := lw_gin 995 (by decide +kernel) (by decide +kernel)
theorem kw_719 : Cond.methodLink RX7 170 yX7_ringOf ∈ lw_g := lw_gin 999 (by decide +kernel) (by decide +kernel)
set_option maxRecDepth 100000 in
theorem kw_720 : Cond.code yX7_far cX7_far 6 (some .int) ∈ lw_g := lw_gin 993 rfl rfl
theorem kw_721 : Cond.instanceMethod yX7_far ∈ lw_g := lw_gin 991 (by decide +kernel) (by decide +kernel)
theorem kw_722 : Cond.selects RX7 yX7_far yX7_far ∈ lw_g := lw_gin 992 (by decide +kernel) (by decide +kernel)
set_option maxRecDepth 100000 in
theorem kw_723 : Cond.code yX7_ring cX7_ring 2 (some .int) ∈ lw_g := lw_gin 1006 rfl rfl
theorem kw_724 : Cond.instanceMethod yX7_ring ∈ lw_g := lw_gin 1004 (by decide +kernel) (by decide +kernel)
theorem kw_725 : Cond.selects RX7 yX7_ring yX7_ring ∈ lw_g := lw_gin 1005 (by decide +kernel) (by decide +kernel)
set_option maxRecDepth 100000 in
theorem kw_726 : Cond.code yX7_isLeast cX7_isLeast 4 (some .boolean) ∈ lw_g := lw_gin 1018 rfl rfl
theorem kw_727 : Cond.instanceMethod yX7_isLeast ∈ lw_g := lw_gin 1017 (by decide +kernel) (by decide +kernel)
theorem kw_728 : Cond.selects RX7 yX7_isLeast yX7_isLeast ∈ lw_g := lw_gin 47 (by decide +kernel) (by decide +kernel)
theorem kw_729 : Cond.methodLink RX7 173 yX7_isLeast ∈ lw_g := lw_gin 1015 (by decide +kernel) (by decide +kernel)
set_option maxRecDepth 100000 in
theorem kw_730 : Cond.code yX7_ringMany cX7_ringMany 3 (some .int) ∈ lw_g := lw_gin 1014 rfl rfl
theorem kw_731 : Cond.instanceMethod yX7_ringMany ∈ lw_g := lw_gin 1013 (by decide +kernel) (by decide +kernel)
theorem kw_732 : Cond.selects RX7 yX7_ringMany yX7_ringMany ∈ lw_g := lw_gin 46 (by decide +kernel) (by decide +kernel)
theorem kw_733 : Cond.methodLink RX7 176 yX7_ringMany ∈ lw_g := lw_gin 1011 (by decide +kernel) (by decide +kernel)
set_option maxRecDepth 100000 in
theorem kw_734 : Cond.code yX7_rings cX7_rings 5 (some .int) ∈ lw_g := lw_gin 1010 rfl rfl
theorem kw_735 : Cond.instanceMethod yX7_rings ∈ lw_g := lw_gin 1008 (by decide +kernel) (by decide +kernel)
theorem kw_736 : Cond.selects RX7 yX7_rings yX7_rings ∈ lw_g := lw_gin 1009 (by decide +kernel) (by decide +kernel)
set_option maxRecDepth 100000 in
theorem kw_737 : Cond.code yX7_common cX7_common 5 (some .int) ∈ lw_g := lw_gin 1025 rfl rfl
theorem kw_738 : Cond.static yX7_common ∈ lw_g := lw_gin 1024 (by decide +kernel) (by decide +kernel)
theorem kw_739 : Cond.methodLink RX7 179 yX7_common ∈ lw_g := lw_gin 1023 (by decide +kernel) (by decide +kernel)
set_option maxRecDepth 100000 in
theorem kw_740 : Cond.code yX7_order cX7_order 4 (some .int) ∈ lw_g := lw_gin 1022 rfl rfl
theorem kw_741 : Cond.instanceMethod yX7_order ∈ lw_g := lw_gin 1020 (by decide +kernel) (by decide +kernel)
theorem kw_742 : Cond.selects RX7 yX7_order yX7_order ∈ lw_g := lw_gin 1021 (by decide +kernel) (by decide +kernel)
set_option maxRecDepth 100000 in
theorem kw_743 : Cond.code yX7_odd cX7_odd 1 (some .int) ∈ lw_g := lw_gin 1029 rfl rfl
theorem kw_744 : Cond.instanceMethod yX7_odd ∈ lw_g := lw_gin 1027 (by decide +kernel) (by decide +kernel)
theorem kw_745 : Cond.selects RX7 yX7_odd yX7_odd ∈ lw_g := lw_gin 1028 (by decide +kernel) (by decide +kernel)
set_option maxRecDepth 100000 in
theorem kw_746 : Cond.code yX7_isSame cX7_isSame 3 (some .boolean) ∈ lw_g := lw_gin 1041 rfl rfl
theorem kw_747 : Cond.instanceMethod yX7_isSame ∈ lw_g := lw_gin 1040 (by decide +kernel) (by decide +kernel)
theorem kw_748 : Cond.selects RX7 yX7_isSame yX7_isSame ∈ lw_g := lw_gin 49 (by decide +kernel) (by decide +kernel)
set_option maxRecDepth 100000 in
theorem kw_749 : Cond.code yX7_beginTry cX7_beginTry 1 none ∈ lw_g := lw_gin 1037 rfl rfl
theorem kw_750 : Cond.instanceMethod yX7_beginTry ∈ lw_g := lw_gin 1036 (by decide +kernel) (by decide +kernel)
theorem kw_751 : Cond.selects RX7 yX7_beginTry yX7_beginTry ∈ lw_g := lw_gin 48 (by decide +kernel) (by decide +kernel)
theorem kw_752 : Cond.methodLink RX7 182 yX7_beginTry ∈ lw_g := lw_gin 1034 (by decide +kernel) (by decide +kernel)
theorem kw_753 : Cond.methodLink RX7 185 yX7_isSame ∈ lw_g := lw_gin 1038 (by decide +kernel) (by decide +kernel)
set_option maxRecDepth 100000 in
theorem kw_754 : Cond.code yX7_alike cX7_alike 3 (some .int) ∈ lw_g := lw_gin 1033 rfl rfl
theorem kw_755 : Cond.instanceMethod yX7_alike ∈ lw_g := lw_gin 1031 (by decide +kernel) (by decide +kernel)
theorem kw_756 : Cond.selects RX7 yX7_alike yX7_alike ∈ lw_g := lw_gin 1032 (by decide +kernel) (by decide +kernel)
set_option maxRecDepth 100000 in
theorem kw_757 : Cond.code yX7_killIn cX7_killIn 2 none ∈ lw_g := lw_gin 1049 rfl rfl
theorem kw_758 : Cond.instanceMethod yX7_killIn ∈ lw_g := lw_gin 1048 (by decide +kernel) (by decide +kernel)
theorem kw_759 : Cond.selects RX7 yX7_killIn yX7_killIn ∈ lw_g := lw_gin 50 (by decide +kernel) (by decide +kernel)
theorem kw_760 : Cond.methodLink RX7 188 yX7_killIn ∈ lw_g := lw_gin 1046 (by decide +kernel) (by decide +kernel)
set_option maxRecDepth 100000 in
theorem kw_761 : Cond.code yX7_pair cX7_pair 3 (some .int) ∈ lw_g := lw_gin 1045 rfl rfl
theorem kw_762 : Cond.instanceMethod yX7_pair ∈ lw_g := lw_gin 1043 (by decide +kernel) (by decide +kernel)
theorem kw_763 : Cond.selects RX7 yX7_pair yX7_pair ∈ lw_g := lw_gin 1044 (by decide +kernel) (by decide +kernel)
set_option maxRecDepth 100000 in
theorem kw_764 : Cond.code yX7_hangs cX7_hangs 7 (some .int) ∈ lw_g := lw_gin 1053 rfl rfl
theorem kw_765 : Cond.instanceMethod yX7_hangs ∈ lw_g := lw_gin 1051 (by decide +kernel) (by decide +kernel)
theorem kw_766 : Cond.selects RX7 yX7_hangs yX7_hangs ∈ lw_g := lw_gin 1052 (by decide +kernel) (by decide +kernel)
theorem kw_767 : Cond.fieldLink RX7 35 "MirrorWiresModel" "yet" "[I" ∈ lw_g := lw_gin 766 (by decide +kernel) (by decide +kernel)
set_option maxRecDepth 100000 in
theorem kw_768 : Cond.code yX7_layYet cX7_layYet 6 none ∈ lw_g := lw_gin 1061 rfl rfl
theorem kw_769 : Cond.instanceMethod yX7_layYet ∈ lw_g := lw_gin 1060 (by decide +kernel) (by decide +kernel)
theorem kw_770 : Cond.selects RX7 yX7_layYet yX7_layYet ∈ lw_g := lw_gin 51 (by decide +kernel) (by decide +kernel)
set_option maxRecDepth 100000 in
theorem kw_771 : Cond.code yX7_kthOn cX7_kthOn 6 (some .int) ∈ lw_g := lw_gin 1065 rfl rfl
theorem kw_772 : Cond.instanceMethod yX7_kthOn ∈ lw_g := lw_gin 1064 (by decide +kernel) (by decide +kernel)
theorem kw_773 : Cond.selects RX7 yX7_kthOn yX7_kthOn ∈ lw_g := lw_gin 52 (by decide +kernel) (by decide +kernel)
theorem kw_774 : Cond.methodLink RX7 191 yX7_layYet ∈ lw_g := lw_gin 1058 (by decide +kernel) (by decide +kernel)
theorem kw_775 : Cond.methodLink RX7 194 yX7_kthOn ∈ lw_g := lw_gin 1062 (by decide +kernel) (by decide +kernel)
set_option maxRecDepth 100000 in
theorem kw_776 : Cond.code yX7_way cX7_way 4 (some .int) ∈ lw_g := lw_gin 1057 rfl rfl
theorem kw_777 : Cond.instanceMethod yX7_way ∈ lw_g := lw_gin 1055 (by decide +kernel) (by decide +kernel)
theorem kw_778 : Cond.selects RX7 yX7_way yX7_way ∈ lw_g := lw_gin 1056 (by decide +kernel) (by decide +kernel)
set_option maxRecDepth 100000 in
theorem kw_779 : Cond.code yX7_reach cX7_reach 4 (some .int) ∈ lw_g := lw_gin 1069 rfl rfl
theorem kw_780 : Cond.instanceMethod yX7_reach ∈ lw_g := lw_gin 1067 (by decide +kernel) (by decide +kernel)
theorem kw_781 : Cond.selects RX7 yX7_reach yX7_reach ∈ lw_g := lw_gin 1068 (by decide +kernel) (by decide +kernel)
set_option maxRecDepth 100000 in
theorem kw_782 : Cond.code yX7_shownBy cX7_shownBy 4 (some .int) ∈ lw_g := lw_gin 1077 rfl rfl
theorem kw_783 : Cond.instanceMethod yX7_shownBy ∈ lw_g := lw_gin 1076 (by decide +kernel) (by decide +kernel)
theorem kw_784 : Cond.selects RX7 yX7_shownBy yX7_shownBy ∈ lw_g := lw_gin 53 (by decide +kernel) (by decide +kernel)
theorem kw_785 : Cond.methodLink RX7 197 yX7_shownBy ∈ lw_g := lw_gin 1074 (by decide +kernel) (by decide +kernel)
set_option maxRecDepth 100000 in
theorem kw_786 : Cond.code yX7_shows cX7_shows 2 (some .int) ∈ lw_g := lw_gin 1073 rfl rfl
theorem kw_787 : Cond.instanceMethod yX7_shows ∈ lw_g := lw_gin 1071 (by decide +kernel) (by decide +kernel)
theorem kw_788 : Cond.selects RX7 yX7_shows yX7_shows ∈ lw_g := lw_gin 1072 (by decide +kernel) (by decide +kernel)
set_option maxRecDepth 100000 in
theorem kw_789 : Cond.code yX7_telling cX7_telling 6 (some .int) ∈ lw_g := lw_gin 1081 rfl rfl
theorem kw_790 : Cond.instanceMethod yX7_telling ∈ lw_g := lw_gin 1079 (by decide +kernel) (by decide +kernel)
theorem kw_791 : Cond.selects RX7 yX7_telling yX7_telling ∈ lw_g := lw_gin 1080 (by decide +kernel) (by decide +kernel)
set_option maxRecDepth 100000 in
theorem kw_792 : Cond.code yX7_likely cX7_likely 9 (some .int) ∈ lw_g := lw_gin 1085 rfl rfl
theorem kw_793 : Cond.instanceMethod yX7_likely ∈ lw_g := lw_gin 1083 (by decide +kernel) (by decide +kernel)
theorem kw_794 : Cond.selects RX7 yX7_likely yX7_likely ∈ lw_g := lw_gin 1084 (by decide +kernel) (by decide +kernel)
theorem kw_795 : Cond.fieldLink RX7 200 "MirrorWiresModel" "kept" "Z" ∈ lw_g := lw_gin 753 (by decide +kernel) (by decide +kernel)
set_option maxRecDepth 100000 in
theorem kw_796 : Cond.code yX7_image cX7_image 1 (some .int) ∈ lw_g := lw_gin 1089 rfl rfl
theorem kw_797 : Cond.instanceMethod yX7_image ∈ lw_g := lw_gin 1087 (by decide +kernel) (by decide +kernel)
theorem kw_798 : Cond.selects RX7 yX7_image yX7_image ∈ lw_g := lw_gin 1088 (by decide +kernel) (by decide +kernel)
set_option maxRecDepth 100000 in
theorem kw_799 : Cond.code yX7_restore cX7_restore 1 (some .int) ∈ lw_g := lw_gin 1093 rfl rfl
theorem kw_800 : Cond.instanceMethod yX7_restore ∈ lw_g := lw_gin 1091 (by decide +kernel) (by decide +kernel)
theorem kw_801 : Cond.selects RX7 yX7_restore yX7_restore ∈ lw_g := lw_gin 1092 (by decide +kernel) (by decide +kernel)
set_option maxRecDepth 100000 in
theorem kw_802 : Cond.code yX7_isSheet cX7_isSheet 1 (some .boolean) ∈ lw_g := lw_gin 1100 rfl rfl
theorem kw_803 : Cond.static yX7_isSheet ∈ lw_g := lw_gin 1099 (by decide +kernel) (by decide +kernel)
set_option maxRecDepth 100000 in
theorem kw_804 : Cond.code yX7_isLane cX7_isLane 1 (some .boolean) ∈ lw_g := lw_gin 1103 rfl rfl
theorem kw_805 : Cond.static yX7_isLane ∈ lw_g := lw_gin 1102 (by decide +kernel) (by decide +kernel)
theorem kw_806 : Cond.fieldLink RX7 23 "MirrorWiresModel" "sizes" "[I" ∈ lw_g := lw_gin 758 (by decide +kernel) (by decide +kernel)
theorem kw_807 : Cond.fieldLink RX7 20 "MirrorWiresModel" "lanes" "[I" ∈ lw_g := lw_gin 757 (by decide +kernel) (by decide +kernel)
set_option maxRecDepth 100000 in
theorem kw_808 : Cond.code yX7_found cX7_found 5 (some .int) ∈ lw_g := lw_gin 1107 rfl rfl
theorem kw_809 : Cond.instanceMethod yX7_found ∈ lw_g := lw_gin 1106 (by decide +kernel) (by decide +kernel)
theorem kw_810 : Cond.selects RX7 yX7_found yX7_found ∈ lw_g := lw_gin 54 (by decide +kernel) (by decide +kernel)
theorem kw_811 : Cond.fieldLink RX7 16 "MirrorWiresModel" "items" "[J" ∈ lw_g := lw_gin 756 (by decide +kernel) (by decide +kernel)
set_option maxRecDepth 100000 in
theorem kw_812 : Cond.code yX7_isToldIn cX7_isToldIn 8 (some .boolean) ∈ lw_g := lw_gin 1115 rfl rfl
theorem kw_813 : Cond.instanceMethod yX7_isToldIn ∈ lw_g := lw_gin 1114 (by decide +kernel) (by decide +kernel)
theorem kw_814 : Cond.selects RX7 yX7_isToldIn yX7_isToldIn ∈ lw_g := lw_gin 56 (by decide +kernel) (by decide +kernel)
theorem kw_815 : Cond.methodLink RX7 204 yX7_isToldIn ∈ lw_g := lw_gin 1112 (by decide +kernel) (by decide +kernel)
set_option maxRecDepth 100000 in
theorem kw_816 : Cond.code yX7_deaths cX7_deaths 7 (some .int) ∈ lw_g := lw_gin 1111 rfl rfl
theorem kw_817 : Cond.instanceMethod yX7_deaths ∈ lw_g := lw_gin 1110 (by decide +kernel) (by decide +kernel)
theorem kw_818 : Cond.selects RX7 yX7_deaths yX7_deaths ∈ lw_g := lw_gin 55 (by decide +kernel) (by decide +kernel)
set_option maxRecDepth 100000 in
theorem kw_819 : Cond.code yX7_kinds cX7_kinds 10 (some .int) ∈ lw_g := lw_gin 1123 rfl rfl
theorem kw_820 : Cond.instanceMethod yX7_kinds ∈ lw_g := lw_gin 1122 (by decide +kernel) (by decide +kernel)
theorem kw_821 : Cond.selects RX7 yX7_kinds yX7_kinds ∈ lw_g := lw_gin 58 (by decide +kernel) (by decide +kernel)
set_option maxRecDepth 100000 in
theorem kw_822 : Cond.code yX7_ups cX7_ups 10 (some .int) ∈ lw_g := lw_gin 1119 rfl rfl
theorem kw_823 : Cond.instanceMethod yX7_ups ∈ lw_g := lw_gin 1118 (by decide +kernel) (by decide +kernel)
theorem kw_824 : Cond.selects RX7 yX7_ups yX7_ups ∈ lw_g := lw_gin 57 (by decide +kernel) (by decide +kernel)
theorem kw_825 : Cond.methodLink RX7 208 yX7_isSheet ∈ lw_g := lw_gin 1098 (by decide +kernel) (by decide +kernel)
theorem kw_826 : Cond.methodLink RX7 211 yX7_isLane ∈ lw_g := lw_gin 1101 (by decide +kernel) (by decide +kernel)
theorem kw_827 : Cond.methodLink RX7 214 yX7_found ∈ lw_g := lw_gin 1104 (by decide +kernel) (by decide +kernel)
theorem kw_828 : Cond.methodLink RX7 224 yX7_kinds ∈ lw_g := lw_gin 1120 (by decide +kernel) (by decide +kernel)
theorem kw_829 : Cond.methodLink RX7 221 yX7_ups ∈ lw_g := lw_gin 1116 (by decide +kernel) (by decide +kernel)
theorem kw_830 : Cond.methodLink RX7 218 yX7_deaths ∈ lw_g := lw_gin 1108 (by decide +kernel) (by decide +kernel)
set_option maxRecDepth 100000 in
theorem kw_831 : Cond.code yX7_came cX7_came 8 (some .int) ∈ lw_g := lw_gin 1097 rfl rfl
theorem kw_832 : Cond.instanceMethod yX7_came ∈ lw_g := lw_gin 1095 (by decide +kernel) (by decide +kernel)
theorem kw_833 : Cond.selects RX7 yX7_came yX7_came ∈ lw_g := lw_gin 1096 (by decide +kernel) (by decide +kernel)
set_option maxRecDepth 100000 in
theorem kw_834 : Cond.code yX7_film cX7_film 8 (some .int) ∈ lw_g := lw_gin 1127 rfl rfl
theorem kw_835 : Cond.instanceMethod yX7_film ∈ lw_g := lw_gin 1125 (by decide +kernel) (by decide +kernel)
theorem kw_836 : Cond.selects RX7 yX7_film yX7_film ∈ lw_g := lw_gin 1126 (by decide +kernel) (by decide +kernel)
set_option maxRecDepth 100000 in
theorem kw_837 : Cond.code yX7_sheet cX7_sheet 5 (some .int) ∈ lw_g := lw_gin 1131 rfl rfl
theorem kw_838 : Cond.instanceMethod yX7_sheet ∈ lw_g := lw_gin 1129 (by decide +kernel) (by decide +kernel)
theorem kw_839 : Cond.selects RX7 yX7_sheet yX7_sheet ∈ lw_g := lw_gin 1130 (by decide +kernel) (by decide +kernel)
set_option maxRecDepth 100000 in
theorem kw_840 : Cond.code yX7_drop cX7_drop 3 (some .int) ∈ lw_g := lw_gin 1135 rfl rfl
theorem kw_841 : Cond.instanceMethod yX7_drop ∈ lw_g := lw_gin 1133 (by decide +kernel) (by decide +kernel)
theorem kw_842 : Cond.selects RX7 yX7_drop yX7_drop ∈ lw_g := lw_gin 1134 (by decide +kernel) (by decide +kernel)
set_option maxRecDepth 100000 in
theorem kw_843 : Cond.code yX7_item cX7_item 7 (some .int) ∈ lw_g := lw_gin 1139 rfl rfl
theorem kw_844 : Cond.instanceMethod yX7_item ∈ lw_g := lw_gin 1137 (by decide +kernel) (by decide +kernel)
theorem kw_845 : Cond.selects RX7 yX7_item yX7_item ∈ lw_g := lw_gin 1138 (by decide +kernel) (by decide +kernel)
set_option maxRecDepth 100000 in
theorem kw_846 : Cond.code yX7_copy cX7_copy 9 (some .int) ∈ lw_g := lw_gin 1143 rfl rfl
theorem kw_847 : Cond.instanceMethod yX7_copy ∈ lw_g := lw_gin 1141 (by decide +kernel) (by decide +kernel)
theorem kw_848 : Cond.selects RX7 yX7_copy yX7_copy ∈ lw_g := lw_gin 1142 (by decide +kernel) (by decide +kernel)
