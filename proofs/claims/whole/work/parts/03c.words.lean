def qm_tb (p : Nat) : Option Cond := tables_1[p]?
set_option maxRecDepth 100000 in
theorem qw_0 : qm_tb 631 = some (.code yJ6_bitCount_0f7a4 cJ6_bitCount_0f7a4 1 (some .int)) := rfl
set_option maxRecDepth 100000 in
theorem qw_1 : qm_tb 404 = some (.code yJ9_max_7cf53 cJ9_max_7cf53 2 (some .int)) := rfl
set_option maxRecDepth 100000 in
theorem qw_2 : qm_tb 401 = some (.code yJ9_min_7cf53 cJ9_min_7cf53 2 (some .int)) := rfl
set_option maxRecDepth 100000 in
theorem qw_3 : qm_tb 471 = some (.code yJ0_length_8abf5 cJ0_length_8abf5 1 (some .int)) := rfl
set_option maxRecDepth 100000 in
theorem qw_4 : qm_tb 547 = some (.code yJ0_charAt_5068e cJ0_charAt_5068e 2 (some .char)) := rfl
set_option maxRecDepth 100000 in
theorem qw_5 : qm_tb 457 = some (.code yJ0_indexOf_0f7a4 cJ0_indexOf_0f7a4 2 (some .int)) := rfl
set_option maxRecDepth 100000 in
theorem qw_6 : qm_tb 461 = some (.code yJ0_indexOf_7cf53 cJ0_indexOf_7cf53 3 (some .int)) := rfl
set_option maxRecDepth 100000 in
theorem qw_7 : qm_tb 475 = some (.code yJ0_coder_7d493 cJ0_coder_7d493 1 (some .byte)) := rfl
set_option maxRecDepth 100000 in
theorem qw_8 : qm_tb 465 = some (.code yJ0_isLatin1_aae02 cJ0_isLatin1_aae02 1 (some .boolean)) := rfl
set_option maxRecDepth 100000 in
theorem qw_9 : qm_tb 553 = some (.code yJ0_checkIndex_df160 cJ0_checkIndex_df160 2 none) := rfl
set_option maxRecDepth 100000 in
theorem qw_10 : qm_tb 550 = some (.code yJ1_charAt_3b067 cJ1_charAt_3b067 2 (some .char)) := rfl
set_option maxRecDepth 100000 in
theorem qw_11 : qm_tb 481 = some (.code yJ1_canEncode_9a6ad cJ1_canEncode_9a6ad 1 (some .boolean)) := rfl
set_option maxRecDepth 100000 in
theorem qw_12 : qm_tb 478 = some (.code yJ1_indexOf_4cfef cJ1_indexOf_4cfef 4 (some .int)) := rfl
set_option maxRecDepth 100000 in
theorem qw_13 : qm_tb 486 = some (.code yJ1_indexOfChar_4cfef cJ1_indexOfChar_4cfef 6 (some .int)) := rfl
set_option maxRecDepth 100000 in
theorem qw_14 : qm_tb 817 = some (.code yJ7_fill_d0a16 cJ7_fill_d0a16 5 none) := rfl
set_option maxRecDepth 100000 in
theorem qw_15 : qm_tb 270 = some (.code yJ7_fill_53178 cJ7_fill_53178 4 none) := rfl
set_option maxRecDepth 100000 in
theorem qw_16 : qm_tb 556 = some (.code yJ3_checkIndex_8e157 cJ3_checkIndex_8e157 3 (some .int)) := rfl
set_option maxRecDepth 100000 in
theorem qw_17 : qm_tb 350 = some (.code yX0_urge cX0_urge 5 (some .int)) := rfl
set_option maxRecDepth 100000 in
theorem qw_18 : qm_tb 772 = some (.code yX0_tells cX0_tells 4 (some .int)) := rfl
set_option maxRecDepth 100000 in
theorem qw_19 : qm_tb 353 = some (.code yX1_urge cX1_urge 4 (some .int)) := rfl
set_option maxRecDepth 100000 in
theorem qw_20 : qm_tb 719 = some (.code yX1_rolls cX1_rolls 4 (some .int)) := rfl
set_option maxRecDepth 100000 in
theorem qw_21 : qm_tb 327 = some (.code yX2_has cX2_has 2 (some .boolean)) := rfl
set_option maxRecDepth 100000 in
theorem qw_22 : qm_tb 331 = some (.code yX2_isAway cX2_isAway 2 (some .boolean)) := rfl
set_option maxRecDepth 100000 in
theorem qw_23 : qm_tb 428 = some (.code yX2_puts cX2_puts 3 none) := rfl
set_option maxRecDepth 100000 in
theorem qw_24 : qm_tb 319 = some (.code yX2_lets cX2_lets 4 (some .int)) := rfl
set_option maxRecDepth 100000 in
theorem qw_25 : qm_tb 382 = some (.code yX2_takes cX2_takes 2 none) := rfl
set_option maxRecDepth 100000 in
theorem qw_26 : qm_tb 697 = some (.code yX2_takesAll cX2_takesAll 2 none) := rfl
set_option maxRecDepth 100000 in
theorem qw_27 : qm_tb 413 = some (.code yX2_bear cX2_bear 1 (some .int)) := rfl
set_option maxRecDepth 100000 in
theorem qw_28 : qm_tb 335 = some (.code yX2_urgeOf cX2_urgeOf 3 (some .int)) := rfl
set_option maxRecDepth 100000 in
theorem qw_29 : qm_tb 373 = some (.code yX2_nextOf cX2_nextOf 3 (some .int)) := rfl
set_option maxRecDepth 100000 in
theorem qw_30 : qm_tb 408 = some (.code yX2_comesFrom cX2_comesFrom 4 none) := rfl
set_option maxRecDepth 100000 in
theorem qw_31 : qm_tb 393 = some (.code yX2_go cX2_go 4 none) := rfl
set_option maxRecDepth 100000 in
theorem qw_32 : qm_tb 397 = some (.code yX2_wakes cX2_wakes 4 none) := rfl
set_option maxRecDepth 100000 in
theorem qw_33 : qm_tb 600 = some (.code yX2_together cX2_together 4 (some .int)) := rfl
set_option maxRecDepth 100000 in
theorem qw_34 : qm_tb 356 = some (.code yX3_urge cX3_urge 4 (some .int)) := rfl
set_option maxRecDepth 100000 in
theorem qw_35 : qm_tb 750 = some (.code yX3_yawns cX3_yawns 4 (some .int)) := rfl
set_option maxRecDepth 100000 in
theorem qw_36 : qm_tb 359 = some (.code yX4_urge cX4_urge 5 (some .int)) := rfl
set_option maxRecDepth 100000 in
theorem qw_37 : qm_tb 728 = some (.code yX4_rolls cX4_rolls 4 (some .int)) := rfl
set_option maxRecDepth 100000 in
theorem qw_38 : qm_tb 755 = some (.code yX4_yawns cX4_yawns 4 (some .int)) := rfl
set_option maxRecDepth 100000 in
theorem qw_39 : qm_tb 363 = some (.code yX5_urge cX5_urge 4 (some .int)) := rfl
set_option maxRecDepth 100000 in
theorem qw_40 : qm_tb 783 = some (.code yX5_tells cX5_tells 4 (some .int)) := rfl
set_option maxRecDepth 100000 in
theorem qw_41 : qm_tb 369 = some (.code yX6_urge cX6_urge 4 (some .int)) := rfl
set_option maxRecDepth 100000 in
theorem qw_42 : qm_tb 740 = some (.code yX6_rolls cX6_rolls 4 (some .int)) := rfl
set_option maxRecDepth 100000 in
theorem qw_43 : qm_tb 764 = some (.code yX6_yawns cX6_yawns 4 (some .int)) := rfl
set_option maxRecDepth 100000 in
theorem qw_44 : qm_tb 789 = some (.code yX6_tells cX6_tells 4 (some .int)) := rfl
set_option maxRecDepth 100000 in
theorem qw_45 : qm_tb 642 = some (.code yX7_clears cX7_clears 1 (some .int)) := rfl
set_option maxRecDepth 100000 in
theorem qw_46 : qm_tb 646 = some (.code yX7_adds cX7_adds 4 (some .int)) := rfl
set_option maxRecDepth 100000 in
theorem qw_47 : qm_tb 702 = some (.code yX7_takes cX7_takes 2 none) := rfl
set_option maxRecDepth 100000 in
theorem qw_48 : qm_tb 448 = some (.code yX8_faultOf cX8_faultOf 3 (some .int)) := rfl
set_option maxRecDepth 100000 in
theorem qw_49 : qm_tb 452 = some (.code yX8_findsClause cX8_findsClause 3 (some .boolean)) := rfl
set_option maxRecDepth 100000 in
theorem qw_50 : qm_tb 542 = some (.code yX8_findsSigns cX8_findsSigns 3 (some .boolean)) := rfl
set_option maxRecDepth 100000 in
theorem qw_51 : qm_tb 567 = some (.code yX8_number cX8_number 3 (some .int)) := rfl
set_option maxRecDepth 100000 in
theorem qw_52 : qm_tb 572 = some (.code yX8_findsEither cX8_findsEither 3 (some .boolean)) := rfl
set_option maxRecDepth 100000 in
theorem qw_53 : qm_tb 576 = some (.code yX8_findsBoth cX8_findsBoth 3 (some .boolean)) := rfl
set_option maxRecDepth 100000 in
theorem qw_54 : qm_tb 580 = some (.code yX8_findsPart cX8_findsPart 4 (some .boolean)) := rfl
set_option maxRecDepth 100000 in
theorem qw_55 : qm_tb 584 = some (.code yX8_findsTest cX8_findsTest 4 (some .boolean)) := rfl
set_option maxRecDepth 100000 in
theorem qw_56 : qm_tb 590 = some (.code yX8_writes cX8_writes 2 none) := rfl
set_option maxRecDepth 100000 in
theorem qw_57 : qm_tb 339 = some (.code yX8_sumOf cX8_sumOf 6 (some .int)) := rfl
set_option maxRecDepth 100000 in
theorem qw_58 : qm_tb 343 = some (.code yX8_holds cX8_holds 10 (some .boolean)) := rfl
set_option maxRecDepth 100000 in
theorem qw_59 : qm_tb 367 = some (.code yX9_urge cX9_urge 4 (some .int)) := rfl
set_option maxRecDepth 100000 in
theorem qw_60 : qm_tb 760 = some (.code yX9_yawns cX9_yawns 4 (some .int)) := rfl
set_option maxRecDepth 100000 in
theorem qw_61 : qm_tb 736 = some (.code yX9_rolls cX9_rolls 4 (some .int)) := rfl
set_option maxRecDepth 100000 in
theorem qw_62 : qm_tb 723 = some (.code yX10_began cX10_began 2 none) := rfl
set_option maxRecDepth 100000 in
theorem qw_63 : qm_tb 798 = some (.code yX10_kept cX10_kept 1 (some .int)) := rfl
set_option maxRecDepth 100000 in
theorem qw_64 : qm_tb 312 = some (.code yX11_sleeper cX11_sleeper 3 (some .int)) := rfl
set_option maxRecDepth 100000 in
theorem qw_65 : qm_tb 323 = some (.code yX11_of cX11_of 3 (some .int)) := rfl
set_option maxRecDepth 100000 in
theorem qw_66 : qm_tb 417 = some (.code yX11_owe cX11_owe 4 (some .int)) := rfl
set_option maxRecDepth 100000 in
theorem qw_67 : qm_tb 424 = some (.code yX11_away cX11_away 4 (some .int)) := rfl
set_option maxRecDepth 100000 in
theorem qw_68 : qm_tb 432 = some (.code yX11_dip cX11_dip 3 (some .int)) := rfl
set_option maxRecDepth 100000 in
theorem qw_69 : qm_tb 436 = some (.code yX11_row cX11_row 6 (some .int)) := rfl
set_option maxRecDepth 100000 in
theorem qw_70 : qm_tb 440 = some (.code yX11_feed cX11_feed 2 (some .int)) := rfl
set_option maxRecDepth 100000 in
theorem qw_71 : qm_tb 444 = some (.code yX11_street cX11_street 3 (some .int)) := rfl
set_option maxRecDepth 100000 in
theorem qw_72 : qm_tb 595 = some (.code yX11_told cX11_told 2 (some .int)) := rfl
set_option maxRecDepth 100000 in
theorem qw_73 : qm_tb 604 = some (.code yX11_pass cX11_pass 2 (some .int)) := rfl
set_option maxRecDepth 100000 in
theorem qw_74 : qm_tb 608 = some (.code yX11_on cX11_on 5 (some .int)) := rfl
set_option maxRecDepth 100000 in
theorem qw_75 : qm_tb 612 = some (.code yX11_fills cX11_fills 3 (some .int)) := rfl
set_option maxRecDepth 100000 in
theorem qw_76 : qm_tb 616 = some (.code yX11_best cX11_best 3 (some .int)) := rfl
set_option maxRecDepth 100000 in
theorem qw_77 : qm_tb 638 = some (.code yX11_see cX11_see 4 (some .int)) := rfl
set_option maxRecDepth 100000 in
theorem qw_78 : qm_tb 650 = some (.code yX11_can cX11_can 3 (some .int)) := rfl
set_option maxRecDepth 100000 in
theorem qw_79 : qm_tb 654 = some (.code yX11_odds cX11_odds 7 (some .long)) := rfl
set_option maxRecDepth 100000 in
theorem qw_80 : qm_tb 665 = some (.code yX11_mean cX11_mean 3 (some .long)) := rfl
set_option maxRecDepth 100000 in
theorem qw_81 : qm_tb 669 = some (.code yX11_plan cX11_plan 3 (some .int)) := rfl
set_option maxRecDepth 100000 in
theorem qw_82 : qm_tb 673 = some (.code yX11_ends cX11_ends 3 (some .int)) := rfl
set_option maxRecDepth 100000 in
theorem qw_83 : qm_tb 681 = some (.code yX11_book cX11_book 3 (some .int)) := rfl
set_option maxRecDepth 100000 in
theorem qw_84 : qm_tb 685 = some (.code yX11_looked cX11_looked 2 (some .int)) := rfl
set_option maxRecDepth 100000 in
theorem qw_85 : qm_tb 689 = some (.code yX11_judge cX11_judge 4 (some .int)) := rfl
set_option maxRecDepth 100000 in
theorem qw_86 : qm_tb 693 = some (.code yX11_image cX11_image 1 (some .int)) := rfl
set_option maxRecDepth 100000 in
theorem qw_87 : qm_tb 707 = some (.code yX11_undo cX11_undo 1 (some .int)) := rfl
set_option maxRecDepth 100000 in
theorem qw_88 : qm_tb 711 = some (.code yX11_act cX11_act 5 (some .int)) := rfl
set_option maxRecDepth 100000 in
theorem qw_89 : qm_tb 794 = some (.code yX11_trace cX11_trace 2 (some .int)) := rfl
set_option maxRecDepth 100000 in
theorem qw_90 : qm_tb 803 = some (.code yX11_taken cX11_taken 4 (some .int)) := rfl
set_option maxRecDepth 100000 in
theorem qw_91 : qm_tb 810 = some (.code yX11_count cX11_count 2 (some .int)) := rfl
set_option maxRecDepth 100000 in
theorem qw_92 : qm_tb 814 = some (.code yX11_tape cX11_tape 4 (some .int)) := rfl
set_option maxRecDepth 100000 in
theorem qw_93 : qm_tb 821 = some (.code yX11_item cX11_item 5 (some .int)) := rfl
set_option maxRecDepth 100000 in
theorem qw_94 : qm_tb 828 = some (.code yX11_read cX11_read 3 (some .long)) := rfl
set_option maxRecDepth 100000 in
theorem qw_95 : qm_tb 832 = some (.code yX11_shift cX11_shift 6 (some .int)) := rfl
set_option maxRecDepth 100000 in
theorem qw_96 : qm_tb 315 = some (.code yX11_isWithin cX11_isWithin 2 (some .boolean)) := rfl
set_option maxRecDepth 100000 in
theorem qw_97 : qm_tb 420 = some (.code yX11_isAmount cX11_isAmount 1 (some .boolean)) := rfl
set_option maxRecDepth 100000 in
theorem qw_98 : qm_tb 657 = some (.code yX11_isPart cX11_isPart 1 (some .boolean)) := rfl
set_option maxRecDepth 100000 in
theorem qw_99 : qm_tb 835 = some (.code yX11_hasPlaces cX11_hasPlaces 3 (some .boolean)) := rfl
set_option maxRecDepth 100000 in
theorem qw_100 : qm_tb 824 = some (.code yX11_lowestBits cX11_lowestBits 3 (some .long)) := rfl
set_option maxRecDepth 100000 in
theorem qw_101 : qm_tb 661 = some (.code yX11_fraction cX11_fraction 4 (some .long)) := rfl
set_option maxRecDepth 100000 in
theorem qw_102 : qm_tb 806 = some (.code yX11_isOfKind cX11_isOfKind 2 (some .boolean)) := rfl
set_option maxRecDepth 100000 in
theorem qw_103 : qm_tb 378 = some (.code yX11_fitting cX11_fitting 6 (some .int)) := rfl
set_option maxRecDepth 100000 in
theorem qw_104 : qm_tb 389 = some (.code yX11_trialIsAsSeen cX11_trialIsAsSeen 5 (some .boolean)) := rfl
set_option maxRecDepth 100000 in
theorem qw_105 : qm_tb 624 = some (.code yX11_deepWithout cX11_deepWithout 3 (some .int)) := rfl
set_option maxRecDepth 100000 in
theorem qw_106 : qm_tb 620 = some (.code yX11_sentBy cX11_sentBy 6 (some .int)) := rfl
set_option maxRecDepth 100000 in
theorem qw_107 : qm_tb 628 = some (.code yX11_stopBy cX11_stopBy 6 (some .int)) := rfl
set_option maxRecDepth 100000 in
theorem qw_108 : qm_tb 677 = some (.code yX11_goesByPlan cX11_goesByPlan 3 none) := rfl
set_option maxRecDepth 100000 in
theorem qw_109 : qm_tb 1059 = some (.code yX12_in cX12_in 4 (some .boolean)) := rfl
set_option maxRecDepth 100000 in
theorem qw_110 : qm_tb 1079 = some (.code yX12_has cX12_has 3 (some .boolean)) := rfl
set_option maxRecDepth 100000 in
theorem qw_111 : qm_tb 1219 = some (.code yX12_least cX12_least 3 (some .int)) := rfl
set_option maxRecDepth 100000 in
theorem qw_112 : qm_tb 1263 = some (.code yX12_bits cX12_bits 4 (some .int)) := rfl
set_option maxRecDepth 100000 in
theorem qw_113 : qm_tb 1067 = some (.code yX12_isOne cX12_isOne 2 (some .boolean)) := rfl
set_option maxRecDepth 100000 in
theorem qw_114 : qm_tb 1071 = some (.code yX12_isMany cX12_isMany 2 (some .boolean)) := rfl
set_option maxRecDepth 100000 in
theorem qw_115 : qm_tb 1183 = some (.code yX12_isMornings cX12_isMornings 2 (some .boolean)) := rfl
set_option maxRecDepth 100000 in
theorem qw_116 : qm_tb 1055 = some (.code yX12_sleeper cX12_sleeper 4 (some .int)) := rfl
set_option maxRecDepth 100000 in
theorem qw_117 : qm_tb 1063 = some (.code yX12_owe cX12_owe 4 (some .int)) := rfl
set_option maxRecDepth 100000 in
theorem qw_118 : qm_tb 1083 = some (.code yX12_goes cX12_goes 3 none) := rfl
set_option maxRecDepth 100000 in
theorem qw_119 : qm_tb 1075 = some (.code yX12_away cX12_away 4 (some .int)) := rfl
set_option maxRecDepth 100000 in
theorem qw_120 : qm_tb 1087 = some (.code yX12_dip cX12_dip 3 (some .int)) := rfl
set_option maxRecDepth 100000 in
theorem qw_121 : qm_tb 1091 = some (.code yX12_row cX12_row 5 (some .int)) := rfl
set_option maxRecDepth 100000 in
theorem qw_122 : qm_tb 1095 = some (.code yX12_feed cX12_feed 2 (some .int)) := rfl
set_option maxRecDepth 100000 in
theorem qw_123 : qm_tb 1115 = some (.code yX12_next cX12_next 1 (some .int)) := rfl
set_option maxRecDepth 100000 in
theorem qw_124 : qm_tb 1123 = some (.code yX12_takes cX12_takes 2 (some .boolean)) := rfl
set_option maxRecDepth 100000 in
theorem qw_125 : qm_tb 1119 = some (.code yX12_takesWord cX12_takesWord 4 (some .boolean)) := rfl
set_option maxRecDepth 100000 in
theorem qw_126 : qm_tb 1131 = some (.code yX12_isDigit cX12_isDigit 1 (some .boolean)) := rfl
set_option maxRecDepth 100000 in
theorem qw_127 : qm_tb 1127 = some (.code yX12_takesNumber cX12_takesNumber 2 (some .boolean)) := rfl
set_option maxRecDepth 100000 in
theorem qw_128 : qm_tb 1147 = some (.code yX12_emits cX12_emits 2 none) := rfl
set_option maxRecDepth 100000 in
theorem qw_129 : qm_tb 1151 = some (.code yX12_whole cX12_whole 1 none) := rfl
set_option maxRecDepth 100000 in
theorem qw_130 : qm_tb 1155 = some (.code yX12_settle cX12_settle 2 none) := rfl
set_option maxRecDepth 100000 in
theorem qw_131 : qm_tb 1143 = some (.code yX12_place cX12_place 2 (some .int)) := rfl
set_option maxRecDepth 100000 in
theorem qw_132 : qm_tb 1139 = some (.code yX12_takesTest cX12_takesTest 3 (some .boolean)) := rfl
set_option maxRecDepth 100000 in
theorem qw_133 : qm_tb 1135 = some (.code yX12_takesE cX12_takesE 4 (some .boolean)) := rfl
set_option maxRecDepth 100000 in
theorem qw_134 : qm_tb 1111 = some (.code yX12_takesHead cX12_takesHead 2 (some .boolean)) := rfl
set_option maxRecDepth 100000 in
theorem qw_135 : qm_tb 1107 = some (.code yX12_takesClause cX12_takesClause 2 (some .boolean)) := rfl
set_option maxRecDepth 100000 in
theorem qw_136 : qm_tb 1103 = some (.code yX12_goesText cX12_goesText 3 (some .boolean)) := rfl
set_option maxRecDepth 100000 in
theorem qw_137 : qm_tb 1099 = some (.code yX12_street cX12_street 2 (some .int)) := rfl
set_option maxRecDepth 100000 in
theorem qw_138 : qm_tb 1167 = some (.code yX12_begin cX12_begin 1 (some .int)) := rfl
set_option maxRecDepth 100000 in
theorem qw_139 : qm_tb 1171 = some (.code yX12_behind cX12_behind 1 (some .int)) := rfl
set_option maxRecDepth 100000 in
theorem qw_140 : qm_tb 1163 = some (.code yX12_bear cX12_bear 3 (some .int)) := rfl
set_option maxRecDepth 100000 in
theorem qw_141 : qm_tb 1215 = some (.code yX12_factOf cX12_factOf 3 (some .int)) := rfl
set_option maxRecDepth 100000 in
theorem qw_142 : qm_tb 1211 = some (.code yX12_holds cX12_holds 8 (some .boolean)) := rfl
set_option maxRecDepth 100000 in
theorem qw_143 : qm_tb 1207 = some (.code yX12_sum cX12_sum 4 (some .int)) := rfl
set_option maxRecDepth 100000 in
theorem qw_144 : qm_tb 1203 = some (.code yX12_urge cX12_urge 4 (some .int)) := rfl
set_option maxRecDepth 100000 in
theorem qw_145 : qm_tb 1199 = some (.code yX12_snooze cX12_snooze 3 (some .int)) := rfl
set_option maxRecDepth 100000 in
theorem qw_146 : qm_tb 1227 = some (.code yX12_chain cX12_chain 3 (some .int)) := rfl
set_option maxRecDepth 100000 in
theorem qw_147 : qm_tb 1175 = some (.code yX12_sumOf cX12_sumOf 4 (some .int)) := rfl
set_option maxRecDepth 100000 in
theorem qw_148 : qm_tb 1159 = some (.code yX12_told cX12_told 2 (some .int)) := rfl
set_option maxRecDepth 100000 in
theorem qw_149 : qm_tb 1223 = some (.code yX12_comes cX12_comes 4 none) := rfl
set_option maxRecDepth 100000 in
theorem qw_150 : qm_tb 1195 = some (.code yX12_goes_ cX12_goes_ 3 none) := rfl
set_option maxRecDepth 100000 in
theorem qw_151 : qm_tb 1191 = some (.code yX12_goMorning cX12_goMorning 2 none) := rfl
set_option maxRecDepth 100000 in
theorem qw_152 : qm_tb 1187 = some (.code yX12_goMornings cX12_goMornings 3 none) := rfl
set_option maxRecDepth 100000 in
theorem qw_153 : qm_tb 1179 = some (.code yX12_pass cX12_pass 2 (some .int)) := rfl
set_option maxRecDepth 100000 in
theorem qw_154 : qm_tb 1235 = some (.code yX12_save cX12_save 2 none) := rfl
set_option maxRecDepth 100000 in
theorem qw_155 : qm_tb 1239 = some (.code yX12_putBack cX12_putBack 2 none) := rfl
set_option maxRecDepth 100000 in
theorem qw_156 : qm_tb 1231 = some (.code yX12_on cX12_on 4 (some .int)) := rfl
set_option maxRecDepth 100000 in
theorem qw_157 : qm_tb 1243 = some (.code yX12_fills cX12_fills 3 (some .int)) := rfl
set_option maxRecDepth 100000 in
theorem qw_158 : qm_tb 1255 = some (.code yX12_deepBy cX12_deepBy 4 (some .int)) := rfl
set_option maxRecDepth 100000 in
theorem qw_159 : qm_tb 1251 = some (.code yX12_sent cX12_sent 6 (some .int)) := rfl
set_option maxRecDepth 100000 in
theorem qw_160 : qm_tb 1259 = some (.code yX12_stop cX12_stop 4 (some .int)) := rfl
set_option maxRecDepth 100000 in
theorem qw_161 : qm_tb 1247 = some (.code yX12_best cX12_best 3 (some .int)) := rfl
set_option maxRecDepth 100000 in
theorem qw_162 : qm_tb 1267 = some (.code yX12_see cX12_see 4 (some .int)) := rfl
set_option maxRecDepth 100000 in
theorem qw_163 : qm_tb 1279 = some (.code yX12_isSeen cX12_isSeen 3 (some .boolean)) := rfl
set_option maxRecDepth 100000 in
theorem qw_164 : qm_tb 1275 = some (.code yX12_owes cX12_owes 7 (some .int)) := rfl
set_option maxRecDepth 100000 in
theorem qw_165 : qm_tb 1271 = some (.code yX12_of cX12_of 3 (some .int)) := rfl
set_option maxRecDepth 100000 in
theorem qw_166 : qm_tb 1283 = some (.code yX12_can cX12_can 7 (some .int)) := rfl
set_option maxRecDepth 100000 in
theorem qw_167 : qm_tb 1296 = some (.code yX12_divisor cX12_divisor 6 (some .int)) := rfl
set_option maxRecDepth 100000 in
theorem qw_168 : qm_tb 1292 = some (.code yX12_lowest cX12_lowest 5 (some .long)) := rfl
set_option maxRecDepth 100000 in
theorem qw_169 : qm_tb 1287 = some (.code yX12_odds cX12_odds 7 (some .long)) := rfl
set_option maxRecDepth 100000 in
theorem qw_170 : qm_tb 1300 = some (.code yX12_mean cX12_mean 4 (some .long)) := rfl
set_option maxRecDepth 100000 in
theorem qw_171 : qm_tb 1304 = some (.code yX12_plan cX12_plan 3 (some .int)) := rfl
set_option maxRecDepth 100000 in
theorem qw_172 : qm_tb 1312 = some (.code yX12_goPlan cX12_goPlan 3 none) := rfl
set_option maxRecDepth 100000 in
theorem qw_173 : qm_tb 1308 = some (.code yX12_ends cX12_ends 3 (some .int)) := rfl
set_option maxRecDepth 100000 in
theorem qw_174 : qm_tb 1316 = some (.code yX12_book cX12_book 3 (some .int)) := rfl
set_option maxRecDepth 100000 in
theorem qw_175 : qm_tb 1320 = some (.code yX12_looked cX12_looked 2 (some .int)) := rfl
set_option maxRecDepth 100000 in
theorem qw_176 : qm_tb 1324 = some (.code yX12_judge cX12_judge 4 (some .int)) := rfl
set_option maxRecDepth 100000 in
theorem qw_177 : qm_tb 1332 = some (.code yX12_image cX12_image 2 (some .int)) := rfl
set_option maxRecDepth 100000 in
theorem qw_178 : qm_tb 1336 = some (.code yX12_undo cX12_undo 2 (some .int)) := rfl
set_option maxRecDepth 100000 in
theorem qw_179 : qm_tb 1348 = some (.code yX12_body cX12_body 2 none) := rfl
set_option maxRecDepth 100000 in
theorem qw_180 : qm_tb 1352 = some (.code yX12_oneRolls cX12_oneRolls 3 (some .int)) := rfl
set_option maxRecDepth 100000 in
theorem qw_181 : qm_tb 1344 = some (.code yX12_rollsAct cX12_rollsAct 3 (some .int)) := rfl
set_option maxRecDepth 100000 in
theorem qw_182 : qm_tb 1364 = some (.code yX12_oneYawns cX12_oneYawns 3 (some .int)) := rfl
set_option maxRecDepth 100000 in
theorem qw_183 : qm_tb 1360 = some (.code yX12_lodgerYawns cX12_lodgerYawns 3 (some .int)) := rfl
set_option maxRecDepth 100000 in
theorem qw_184 : qm_tb 1356 = some (.code yX12_yawnsAct cX12_yawnsAct 4 (some .int)) := rfl
set_option maxRecDepth 100000 in
theorem qw_185 : qm_tb 1372 = some (.code yX12_oneTells cX12_oneTells 3 (some .int)) := rfl
set_option maxRecDepth 100000 in
theorem qw_186 : qm_tb 1368 = some (.code yX12_tellsAct cX12_tellsAct 4 (some .int)) := rfl
set_option maxRecDepth 100000 in
theorem qw_187 : qm_tb 1340 = some (.code yX12_act cX12_act 4 (some .int)) := rfl
set_option maxRecDepth 100000 in
theorem qw_188 : qm_tb 1376 = some (.code yX12_trace cX12_trace 2 (some .int)) := rfl
set_option maxRecDepth 100000 in
theorem qw_189 : qm_tb 1380 = some (.code yX12_taken cX12_taken 4 (some .int)) := rfl
set_option maxRecDepth 100000 in
theorem qw_190 : qm_tb 1384 = some (.code yX12_count cX12_count 2 (some .int)) := rfl
set_option maxRecDepth 100000 in
theorem qw_191 : qm_tb 1328 = some (.code yX12_isTape cX12_isTape 2 (some .boolean)) := rfl
set_option maxRecDepth 100000 in
theorem qw_192 : qm_tb 1388 = some (.code yX12_tape cX12_tape 5 (some .int)) := rfl
set_option maxRecDepth 100000 in
theorem qw_193 : qm_tb 1396 = some (.code yX12_narrow cX12_narrow 4 (some .long)) := rfl
set_option maxRecDepth 100000 in
theorem qw_194 : qm_tb 1392 = some (.code yX12_item cX12_item 5 (some .int)) := rfl
set_option maxRecDepth 100000 in
theorem qw_195 : qm_tb 1400 = some (.code yX12_read cX12_read 3 (some .long)) := rfl
set_option maxRecDepth 100000 in
theorem qw_196 : qm_tb 1404 = some (.code yX12_shift cX12_shift 7 (some .int)) := rfl
def qm_cw (q : qm_Mi) : Prop := qm_tb q.2.2.2.2.2.1 = some (Cond.code q.1 q.2.1 q.2.2.1 q.2.2.2.1)
set_option maxRecDepth 100000 in
theorem qm_cw_ok : ∀ q ∈ qm_mi, qm_cw q := List.forall_mem_cons.mpr ⟨qw_0, List.forall_mem_cons.mpr ⟨qw_1, List.forall_mem_cons.mpr ⟨qw_2, List.forall_mem_cons.mpr ⟨qw_3, List.forall_mem_cons.mpr ⟨qw_4, List.forall_mem_cons.mpr ⟨qw_5, List.forall_mem_cons.mpr ⟨qw_6, List.forall_mem_cons.mpr ⟨qw_7, List.forall_mem_cons.mpr ⟨qw_8, List.forall_mem_cons.mpr ⟨qw_9, List.forall_mem_cons.mpr ⟨qw_10, List.forall_mem_cons.mpr ⟨qw_11, List.forall_mem_cons.mpr ⟨qw_12, List.forall_mem_cons.mpr ⟨qw_13, List.forall_mem_cons.mpr ⟨qw_14, List.forall_mem_cons.mpr ⟨qw_15, List.forall_mem_cons.mpr ⟨qw_16, List.forall_mem_cons.mpr ⟨qw_17, List.forall_mem_cons.mpr ⟨qw_18, List.forall_mem_cons.mpr ⟨qw_19, List.forall_mem_cons.mpr ⟨qw_20, List.forall_mem_cons.mpr ⟨qw_21, List.forall_mem_cons.mpr ⟨qw_22, List.forall_mem_cons.mpr ⟨qw_23, List.forall_mem_cons.mpr ⟨qw_24, List.forall_mem_cons.mpr ⟨qw_25, List.forall_mem_cons.mpr ⟨qw_26, List.forall_mem_cons.mpr ⟨qw_27, List.forall_mem_cons.mpr ⟨qw_28, List.forall_mem_cons.mpr ⟨qw_29, List.forall_mem_cons.mpr ⟨qw_30, List.forall_mem_cons.mpr ⟨qw_31, List.forall_mem_cons.mpr ⟨qw_32, List.forall_mem_cons.mpr ⟨qw_33, List.forall_mem_cons.mpr ⟨qw_34, List.forall_mem_cons.mpr ⟨qw_35, List.forall_mem_cons.mpr ⟨qw_36, List.forall_mem_cons.mpr ⟨qw_37, List.forall_mem_cons.mpr ⟨qw_38, List.forall_mem_cons.mpr ⟨qw_39, List.forall_mem_cons.mpr ⟨qw_40, List.forall_mem_cons.mpr ⟨qw_41, List.forall_mem_cons.mpr ⟨qw_42, List.forall_mem_cons.mpr ⟨qw_43, List.forall_mem_cons.mpr ⟨qw_44, List.forall_mem_cons.mpr ⟨qw_45, List.forall_mem_cons.mpr ⟨qw_46, List.forall_mem_cons.mpr ⟨qw_47, List.forall_mem_cons.mpr ⟨qw_48, List.forall_mem_cons.mpr ⟨qw_49, List.forall_mem_cons.mpr ⟨qw_50, List.forall_mem_cons.mpr ⟨qw_51, List.forall_mem_cons.mpr ⟨qw_52, List.forall_mem_cons.mpr ⟨qw_53, List.forall_mem_cons.mpr ⟨qw_54, List.forall_mem_cons.mpr ⟨qw_55, List.forall_mem_cons.mpr ⟨qw_56, List.forall_mem_cons.mpr ⟨qw_57, List.forall_mem_cons.mpr ⟨qw_58, List.forall_mem_cons.mpr ⟨qw_59, List.forall_mem_cons.mpr ⟨qw_60, List.forall_mem_cons.mpr ⟨qw_61, List.forall_mem_cons.mpr ⟨qw_62, List.forall_mem_cons.mpr ⟨qw_63, List.forall_mem_cons.mpr ⟨qw_64, List.forall_mem_cons.mpr ⟨qw_65, List.forall_mem_cons.mpr ⟨qw_66, List.forall_mem_cons.mpr ⟨qw_67, List.forall_mem_cons.mpr ⟨qw_68, List.forall_mem_cons.mpr ⟨qw_69, List.forall_mem_cons.mpr ⟨qw_70, List.forall_mem_cons.mpr ⟨qw_71, List.forall_mem_cons.mpr ⟨qw_72, List.forall_mem_cons.mpr ⟨qw_73, List.forall_mem_cons.mpr ⟨qw_74, List.forall_mem_cons.mpr ⟨qw_75, List.forall_mem_cons.mpr ⟨qw_76, List.forall_mem_cons.mpr ⟨qw_77, List.forall_mem_cons.mpr ⟨qw_78, List.forall_mem_cons.mpr ⟨qw_79, List.forall_mem_cons.mpr ⟨qw_80, List.forall_mem_cons.mpr ⟨qw_81, List.forall_mem_cons.mpr ⟨qw_82, List.forall_mem_cons.mpr ⟨qw_83, List.forall_mem_cons.mpr ⟨qw_84, List.forall_mem_cons.mpr ⟨qw_85, List.forall_mem_cons.mpr ⟨qw_86, List.forall_mem_cons.mpr ⟨qw_87, List.forall_mem_cons.mpr ⟨qw_88, List.forall_mem_cons.mpr ⟨qw_89, List.forall_mem_cons.mpr ⟨qw_90, List.forall_mem_cons.mpr ⟨qw_91, List.forall_mem_cons.mpr ⟨qw_92, List.forall_mem_cons.mpr ⟨qw_93, List.forall_mem_cons.mpr ⟨qw_94, List.forall_mem_cons.mpr ⟨qw_95, List.forall_mem_cons.mpr ⟨qw_96, List.forall_mem_cons.mpr ⟨qw_97, List.forall_mem_cons.mpr ⟨qw_98, List.forall_mem_cons.mpr ⟨qw_99, List.forall_mem_cons.mpr ⟨qw_100, List.forall_mem_cons.mpr ⟨qw_101, List.forall_mem_cons.mpr ⟨qw_102, List.forall_mem_cons.mpr ⟨qw_103, List.forall_mem_cons.mpr ⟨qw_104, List.forall_mem_cons.mpr ⟨qw_105, List.forall_mem_cons.mpr ⟨qw_106, List.forall_mem_cons.mpr ⟨qw_107, List.forall_mem_cons.mpr ⟨qw_108, List.forall_mem_cons.mpr ⟨qw_109, List.forall_mem_cons.mpr ⟨qw_110, List.forall_mem_cons.mpr ⟨qw_111, List.forall_mem_cons.mpr ⟨qw_112, List.forall_mem_cons.mpr ⟨qw_113, List.forall_mem_cons.mpr ⟨qw_114, List.forall_mem_cons.mpr ⟨qw_115, List.forall_mem_cons.mpr ⟨qw_116, List.forall_mem_cons.mpr ⟨qw_117, List.forall_mem_cons.mpr ⟨qw_118, List.forall_mem_cons.mpr ⟨qw_119, List.forall_mem_cons.mpr ⟨qw_120, List.forall_mem_cons.mpr ⟨qw_121, List.forall_mem_cons.mpr ⟨qw_122, List.forall_mem_cons.mpr ⟨qw_123, List.forall_mem_cons.mpr ⟨qw_124, List.forall_mem_cons.mpr ⟨qw_125, List.forall_mem_cons.mpr ⟨qw_126, List.forall_mem_cons.mpr ⟨qw_127, List.forall_mem_cons.mpr ⟨qw_128, List.forall_mem_cons.mpr ⟨qw_129, List.forall_mem_cons.mpr ⟨qw_130, List.forall_mem_cons.mpr ⟨qw_131, List.forall_mem_cons.mpr ⟨qw_132, List.forall_mem_cons.mpr ⟨qw_133, List.forall_mem_cons.mpr ⟨qw_134, List.forall_mem_cons.mpr ⟨qw_135, List.forall_mem_cons.mpr ⟨qw_136, List.forall_mem_cons.mpr ⟨qw_137, List.forall_mem_cons.mpr ⟨qw_138, List.forall_mem_cons.mpr ⟨qw_139, List.forall_mem_cons.mpr ⟨qw_140, List.forall_mem_cons.mpr ⟨qw_141, List.forall_mem_cons.mpr ⟨qw_142, List.forall_mem_cons.mpr ⟨qw_143, List.forall_mem_cons.mpr ⟨qw_144, List.forall_mem_cons.mpr ⟨qw_145, List.forall_mem_cons.mpr ⟨qw_146, List.forall_mem_cons.mpr ⟨qw_147, List.forall_mem_cons.mpr ⟨qw_148, List.forall_mem_cons.mpr ⟨qw_149, List.forall_mem_cons.mpr ⟨qw_150, List.forall_mem_cons.mpr ⟨qw_151, List.forall_mem_cons.mpr ⟨qw_152, List.forall_mem_cons.mpr ⟨qw_153, List.forall_mem_cons.mpr ⟨qw_154, List.forall_mem_cons.mpr ⟨qw_155, List.forall_mem_cons.mpr ⟨qw_156, List.forall_mem_cons.mpr ⟨qw_157, List.forall_mem_cons.mpr ⟨qw_158, List.forall_mem_cons.mpr ⟨qw_159, List.forall_mem_cons.mpr ⟨qw_160, List.forall_mem_cons.mpr ⟨qw_161, List.forall_mem_cons.mpr ⟨qw_162, List.forall_mem_cons.mpr ⟨qw_163, List.forall_mem_cons.mpr ⟨qw_164, List.forall_mem_cons.mpr ⟨qw_165, List.forall_mem_cons.mpr ⟨qw_166, List.forall_mem_cons.mpr ⟨qw_167, List.forall_mem_cons.mpr ⟨qw_168, List.forall_mem_cons.mpr ⟨qw_169, List.forall_mem_cons.mpr ⟨qw_170, List.forall_mem_cons.mpr ⟨qw_171, List.forall_mem_cons.mpr ⟨qw_172, List.forall_mem_cons.mpr ⟨qw_173, List.forall_mem_cons.mpr ⟨qw_174, List.forall_mem_cons.mpr ⟨qw_175, List.forall_mem_cons.mpr ⟨qw_176, List.forall_mem_cons.mpr ⟨qw_177, List.forall_mem_cons.mpr ⟨qw_178, List.forall_mem_cons.mpr ⟨qw_179, List.forall_mem_cons.mpr ⟨qw_180, List.forall_mem_cons.mpr ⟨qw_181, List.forall_mem_cons.mpr ⟨qw_182, List.forall_mem_cons.mpr ⟨qw_183, List.forall_mem_cons.mpr ⟨qw_184, List.forall_mem_cons.mpr ⟨qw_185, List.forall_mem_cons.mpr ⟨qw_186, List.forall_mem_cons.mpr ⟨qw_187, List.forall_mem_cons.mpr ⟨qw_188, List.forall_mem_cons.mpr ⟨qw_189, List.forall_mem_cons.mpr ⟨qw_190, List.forall_mem_cons.mpr ⟨qw_191, List.forall_mem_cons.mpr ⟨qw_192, List.forall_mem_cons.mpr ⟨qw_193, List.forall_mem_cons.mpr ⟨qw_194, List.forall_mem_cons.mpr ⟨qw_195, List.forall_mem_cons.mpr ⟨qw_196, (fun _ h => absurd h List.not_mem_nil)⟩⟩⟩⟩⟩⟩⟩⟩⟩⟩⟩⟩⟩⟩⟩⟩⟩⟩⟩⟩⟩⟩⟩⟩⟩⟩⟩⟩⟩⟩⟩⟩⟩⟩⟩⟩⟩⟩⟩⟩⟩⟩⟩⟩⟩⟩⟩⟩⟩⟩⟩⟩⟩⟩⟩⟩⟩⟩⟩⟩⟩⟩⟩⟩⟩⟩⟩⟩⟩⟩⟩⟩⟩⟩⟩⟩⟩⟩⟩⟩⟩⟩⟩⟩⟩⟩⟩⟩⟩⟩⟩⟩⟩⟩⟩⟩⟩⟩⟩⟩⟩⟩⟩⟩⟩⟩⟩⟩⟩⟩⟩⟩⟩⟩⟩⟩⟩⟩⟩⟩⟩⟩⟩⟩⟩⟩⟩⟩⟩⟩⟩⟩⟩⟩⟩⟩⟩⟩⟩⟩⟩⟩⟩⟩⟩⟩⟩⟩⟩⟩⟩⟩⟩⟩⟩⟩⟩⟩⟩⟩⟩⟩⟩⟩⟩⟩⟩⟩⟩⟩⟩⟩⟩⟩⟩⟩⟩⟩⟩⟩⟩⟩⟩⟩⟩⟩⟩⟩⟩⟩⟩⟩⟩⟩⟩⟩⟩
