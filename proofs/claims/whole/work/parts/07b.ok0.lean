set_option maxRecDepth 100000 in
theorem qo_0 : qm_okK 13 cJ6_bitCount_0f7a4 (some .int) qk_0 = true := by decide +kernel
set_option maxRecDepth 100000 in
theorem qo_1 : qm_okK 14 cJ9_max_7cf53 (some .int) qk_1 = true := by decide +kernel
set_option maxRecDepth 100000 in
theorem qo_2 : qm_okK 14 cJ9_min_7cf53 (some .int) qk_2 = true := by decide +kernel
set_option maxRecDepth 100000 in
theorem qo_3 : qm_okK 15 cJ0_length_8abf5 (some .int) qk_3 = true := by decide +kernel
set_option maxRecDepth 100000 in
theorem qo_4 : qm_okK 15 cJ0_charAt_5068e (some .char) qk_4 = true := by decide +kernel
set_option maxRecDepth 100000 in
theorem qo_5 : qm_okK 15 cJ0_indexOf_0f7a4 (some .int) qk_5 = true := by decide +kernel
set_option maxRecDepth 100000 in
theorem qo_6 : qm_okK 15 cJ0_indexOf_7cf53 (some .int) qk_6 = true := by decide +kernel
set_option maxRecDepth 100000 in
theorem qo_7 : qm_okK 15 cJ0_coder_7d493 (some .byte) qk_7 = true := by decide +kernel
set_option maxRecDepth 100000 in
theorem qo_8 : qm_okK 15 cJ0_isLatin1_aae02 (some .boolean) qk_8 = true := by decide +kernel
set_option maxRecDepth 100000 in
theorem qo_9 : qm_okK 15 cJ0_checkIndex_df160 none qk_9 = true := by decide +kernel
set_option maxRecDepth 100000 in
theorem qo_10 : qm_okK 16 cJ1_charAt_3b067 (some .char) qk_10 = true := by decide +kernel
set_option maxRecDepth 100000 in
theorem qo_11 : qm_okK 16 cJ1_canEncode_9a6ad (some .boolean) qk_11 = true := by decide +kernel
set_option maxRecDepth 100000 in
theorem qo_12 : qm_okK 16 cJ1_indexOf_4cfef (some .int) qk_12 = true := by decide +kernel
set_option maxRecDepth 100000 in
theorem qo_13 : qm_okK 16 cJ1_indexOfChar_4cfef (some .int) qk_13 = true := by decide +kernel
set_option maxRecDepth 100000 in
theorem qo_14 : qm_okK 17 cJ7_fill_d0a16 none qk_14 = true := by decide +kernel
set_option maxRecDepth 100000 in
theorem qo_15 : qm_okK 17 cJ7_fill_53178 none qk_15 = true := by decide +kernel
set_option maxRecDepth 100000 in
theorem qo_16 : qm_okK 18 cJ3_checkIndex_8e157 (some .int) qk_16 = true := by decide +kernel
set_option maxRecDepth 100000 in
theorem qo_17 : qm_okK 0 cX0_urge (some .int) qk_17 = true := by decide +kernel
set_option maxRecDepth 100000 in
theorem qo_18 : qm_okK 0 cX0_tells (some .int) qk_18 = true := by decide +kernel
set_option maxRecDepth 100000 in
theorem qo_19 : qm_okK 1 cX1_urge (some .int) qk_19 = true := by decide +kernel
set_option maxRecDepth 100000 in
theorem qo_20 : qm_okK 1 cX1_rolls (some .int) qk_20 = true := by decide +kernel
set_option maxRecDepth 100000 in
theorem qo_21 : qm_okK 2 cX2_has (some .boolean) qk_21 = true := by decide +kernel
set_option maxRecDepth 100000 in
theorem qo_22 : qm_okK 2 cX2_isAway (some .boolean) qk_22 = true := by decide +kernel
set_option maxRecDepth 100000 in
theorem qo_23 : qm_okK 2 cX2_puts none qk_23 = true := by decide +kernel
set_option maxRecDepth 100000 in
theorem qo_24 : qm_okK 2 cX2_lets (some .int) qk_24 = true := by decide +kernel
set_option maxRecDepth 100000 in
theorem qo_25 : qm_okK 2 cX2_takes none qk_25 = true := by decide +kernel
set_option maxRecDepth 100000 in
theorem qo_26 : qm_okK 2 cX2_takesAll none qk_26 = true := by decide +kernel
set_option maxRecDepth 100000 in
theorem qo_27 : qm_okK 2 cX2_bear (some .int) qk_27 = true := by decide +kernel
set_option maxRecDepth 100000 in
theorem qo_28 : qm_okK 2 cX2_urgeOf (some .int) qk_28 = true := by decide +kernel
set_option maxRecDepth 100000 in
theorem qo_29 : qm_okK 2 cX2_nextOf (some .int) qk_29 = true := by decide +kernel
set_option maxRecDepth 100000 in
theorem qo_30 : qm_okK 2 cX2_comesFrom none qk_30 = true := by decide +kernel
set_option maxRecDepth 100000 in
theorem qo_31 : qm_okK 2 cX2_go none qk_31 = true := by decide +kernel
set_option maxRecDepth 100000 in
theorem qo_32 : qm_okK 2 cX2_wakes none qk_32 = true := by decide +kernel
set_option maxRecDepth 100000 in
theorem qo_33 : qm_okK 2 cX2_together (some .int) qk_33 = true := by decide +kernel
set_option maxRecDepth 100000 in
theorem qo_34 : qm_okK 3 cX3_urge (some .int) qk_34 = true := by decide +kernel
set_option maxRecDepth 100000 in
theorem qo_35 : qm_okK 3 cX3_yawns (some .int) qk_35 = true := by decide +kernel
set_option maxRecDepth 100000 in
theorem qo_36 : qm_okK 4 cX4_urge (some .int) qk_36 = true := by decide +kernel
set_option maxRecDepth 100000 in
theorem qo_37 : qm_okK 4 cX4_rolls (some .int) qk_37 = true := by decide +kernel
set_option maxRecDepth 100000 in
theorem qo_38 : qm_okK 4 cX4_yawns (some .int) qk_38 = true := by decide +kernel
set_option maxRecDepth 100000 in
theorem qo_39 : qm_okK 5 cX5_urge (some .int) qk_39 = true := by decide +kernel
set_option maxRecDepth 100000 in
theorem qo_40 : qm_okK 5 cX5_tells (some .int) qk_40 = true := by decide +kernel
set_option maxRecDepth 100000 in
theorem qo_41 : qm_okK 6 cX6_urge (some .int) qk_41 = true := by decide +kernel
set_option maxRecDepth 100000 in
theorem qo_42 : qm_okK 6 cX6_rolls (some .int) qk_42 = true := by decide +kernel
set_option maxRecDepth 100000 in
theorem qo_43 : qm_okK 6 cX6_yawns (some .int) qk_43 = true := by decide +kernel
set_option maxRecDepth 100000 in
theorem qo_44 : qm_okK 6 cX6_tells (some .int) qk_44 = true := by decide +kernel
set_option maxRecDepth 100000 in
theorem qo_45 : qm_okK 7 cX7_clears (some .int) qk_45 = true := by decide +kernel
set_option maxRecDepth 100000 in
theorem qo_46 : qm_okK 7 cX7_adds (some .int) qk_46 = true := by decide +kernel
set_option maxRecDepth 100000 in
theorem qo_47 : qm_okK 7 cX7_takes none qk_47 = true := by decide +kernel
set_option maxRecDepth 100000 in
theorem qo_48 : qm_okK 8 cX8_faultOf (some .int) qk_48 = true := by decide +kernel
set_option maxRecDepth 100000 in
theorem qo_49 : qm_okK 8 cX8_findsClause (some .boolean) qk_49 = true := by decide +kernel
