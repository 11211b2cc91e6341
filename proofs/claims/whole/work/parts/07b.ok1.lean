set_option maxRecDepth 100000 in
theorem qo_50 : qm_okK 8 cX8_findsSigns (some .boolean) qk_50 = true := by decide +kernel
set_option maxRecDepth 100000 in
theorem qo_51 : qm_okK 8 cX8_number (some .int) qk_51 = true := by decide +kernel
set_option maxRecDepth 100000 in
theorem qo_52 : qm_okK 8 cX8_findsEither (some .boolean) qk_52 = true := by decide +kernel
set_option maxRecDepth 100000 in
theorem qo_53 : qm_okK 8 cX8_findsBoth (some .boolean) qk_53 = true := by decide +kernel
set_option maxRecDepth 100000 in
theorem qo_54 : qm_okK 8 cX8_findsPart (some .boolean) qk_54 = true := by decide +kernel
set_option maxRecDepth 100000 in
theorem qo_55 : qm_okK 8 cX8_findsTest (some .boolean) qk_55 = true := by decide +kernel
set_option maxRecDepth 100000 in
theorem qo_56 : qm_okK 8 cX8_writes none qk_56 = true := by decide +kernel
set_option maxRecDepth 100000 in
theorem qo_57 : qm_okK 8 cX8_sumOf (some .int) qk_57 = true := by decide +kernel
set_option maxRecDepth 100000 in
theorem qo_58 : qm_okK 8 cX8_holds (some .boolean) qk_58 = true := by decide +kernel
set_option maxRecDepth 100000 in
theorem qo_59 : qm_okK 9 cX9_urge (some .int) qk_59 = true := by decide +kernel
set_option maxRecDepth 100000 in
theorem qo_60 : qm_okK 9 cX9_yawns (some .int) qk_60 = true := by decide +kernel
set_option maxRecDepth 100000 in
theorem qo_61 : qm_okK 9 cX9_rolls (some .int) qk_61 = true := by decide +kernel
set_option maxRecDepth 100000 in
theorem qo_62 : qm_okK 10 cX10_began none qk_62 = true := by decide +kernel
set_option maxRecDepth 100000 in
theorem qo_63 : qm_okK 10 cX10_kept (some .int) qk_63 = true := by decide +kernel
set_option maxRecDepth 100000 in
theorem qo_64 : qm_okK 11 cX11_sleeper (some .int) qk_64 = true := by decide +kernel
set_option maxRecDepth 100000 in
theorem qo_65 : qm_okK 11 cX11_of (some .int) qk_65 = true := by decide +kernel
set_option maxRecDepth 100000 in
theorem qo_66 : qm_okK 11 cX11_owe (some .int) qk_66 = true := by decide +kernel
set_option maxRecDepth 100000 in
theorem qo_67 : qm_okK 11 cX11_away (some .int) qk_67 = true := by decide +kernel
set_option maxRecDepth 100000 in
theorem qo_68 : qm_okK 11 cX11_dip (some .int) qk_68 = true := by decide +kernel
set_option maxRecDepth 100000 in
theorem qo_69 : qm_okK 11 cX11_row (some .int) qk_69 = true := by decide +kernel
set_option maxRecDepth 100000 in
theorem qo_70 : qm_okK 11 cX11_feed (some .int) qk_70 = true := by decide +kernel
set_option maxRecDepth 100000 in
theorem qo_71 : qm_okK 11 cX11_street (some .int) qk_71 = true := by decide +kernel
set_option maxRecDepth 100000 in
theorem qo_72 : qm_okK 11 cX11_told (some .int) qk_72 = true := by decide +kernel
set_option maxRecDepth 100000 in
theorem qo_73 : qm_okK 11 cX11_pass (some .int) qk_73 = true := by decide +kernel
set_option maxRecDepth 100000 in
theorem qo_74 : qm_okK 11 cX11_on (some .int) qk_74 = true := by decide +kernel
set_option maxRecDepth 100000 in
theorem qo_75 : qm_okK 11 cX11_fills (some .int) qk_75 = true := by decide +kernel
set_option maxRecDepth 100000 in
theorem qo_76 : qm_okK 11 cX11_best (some .int) qk_76 = true := by decide +kernel
set_option maxRecDepth 100000 in
theorem qo_77 : qm_okK 11 cX11_see (some .int) qk_77 = true := by decide +kernel
set_option maxRecDepth 100000 in
theorem qo_78 : qm_okK 11 cX11_can (some .int) qk_78 = true := by decide +kernel
set_option maxRecDepth 100000 in
theorem qo_79 : qm_okK 11 cX11_odds (some .long) qk_79 = true := by decide +kernel
set_option maxRecDepth 100000 in
theorem qo_80 : qm_okK 11 cX11_mean (some .long) qk_80 = true := by decide +kernel
set_option maxRecDepth 100000 in
theorem qo_81 : qm_okK 11 cX11_plan (some .int) qk_81 = true := by decide +kernel
set_option maxRecDepth 100000 in
theorem qo_82 : qm_okK 11 cX11_ends (some .int) qk_82 = true := by decide +kernel
set_option maxRecDepth 100000 in
theorem qo_83 : qm_okK 11 cX11_book (some .int) qk_83 = true := by decide +kernel
set_option maxRecDepth 100000 in
theorem qo_84 : qm_okK 11 cX11_looked (some .int) qk_84 = true := by decide +kernel
set_option maxRecDepth 100000 in
theorem qo_85 : qm_okK 11 cX11_judge (some .int) qk_85 = true := by decide +kernel
set_option maxRecDepth 100000 in
theorem qo_86 : qm_okK 11 cX11_image (some .int) qk_86 = true := by decide +kernel
set_option maxRecDepth 100000 in
theorem qo_87 : qm_okK 11 cX11_undo (some .int) qk_87 = true := by decide +kernel
set_option maxRecDepth 100000 in
theorem qo_88 : qm_okK 11 cX11_act (some .int) qk_88 = true := by decide +kernel
set_option maxRecDepth 100000 in
theorem qo_89 : qm_okK 11 cX11_trace (some .int) qk_89 = true := by decide +kernel
set_option maxRecDepth 100000 in
theorem qo_90 : qm_okK 11 cX11_taken (some .int) qk_90 = true := by decide +kernel
set_option maxRecDepth 100000 in
theorem qo_91 : qm_okK 11 cX11_count (some .int) qk_91 = true := by decide +kernel
set_option maxRecDepth 100000 in
theorem qo_92 : qm_okK 11 cX11_tape (some .int) qk_92 = true := by decide +kernel
set_option maxRecDepth 100000 in
theorem qo_93 : qm_okK 11 cX11_item (some .int) qk_93 = true := by decide +kernel
set_option maxRecDepth 100000 in
theorem qo_94 : qm_okK 11 cX11_read (some .long) qk_94 = true := by decide +kernel
set_option maxRecDepth 100000 in
theorem qo_95 : qm_okK 11 cX11_shift (some .int) qk_95 = true := by decide +kernel
set_option maxRecDepth 100000 in
theorem qo_96 : qm_okK 11 cX11_isWithin (some .boolean) qk_96 = true := by decide +kernel
set_option maxRecDepth 100000 in
theorem qo_97 : qm_okK 11 cX11_isAmount (some .boolean) qk_97 = true := by decide +kernel
set_option maxRecDepth 100000 in
theorem qo_98 : qm_okK 11 cX11_isPart (some .boolean) qk_98 = true := by decide +kernel
set_option maxRecDepth 100000 in
theorem qo_99 : qm_okK 11 cX11_hasPlaces (some .boolean) qk_99 = true := by decide +kernel
