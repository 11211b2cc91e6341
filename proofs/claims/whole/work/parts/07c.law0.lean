set_option maxRecDepth 100000 in
theorem qol_0 : ql_0.all (qm_okE 19 code ret qk_197) = true := by decide +kernel
set_option maxRecDepth 100000 in
theorem qol_1 : ql_1.all (qm_okE 19 code ret qk_197) = true := by decide +kernel
set_option maxRecDepth 100000 in
theorem qol_2 : ql_2.all (qm_okE 19 code ret qk_197) = true := by decide +kernel
set_option maxRecDepth 100000 in
theorem qol_3 : ql_3.all (qm_okE 19 code ret qk_197) = true := by decide +kernel
set_option maxRecDepth 100000 in
theorem qol_4 : ql_4.all (qm_okE 19 code ret qk_197) = true := by decide +kernel
set_option maxRecDepth 100000 in
theorem qol_5 : ql_5.all (qm_okE 19 code ret qk_197) = true := by decide +kernel
set_option maxRecDepth 100000 in
theorem qol_6 : ql_6.all (qm_okE 19 code ret qk_197) = true := by decide +kernel
set_option maxRecDepth 100000 in
theorem qol_7 : ql_7.all (qm_okE 19 code ret qk_197) = true := by decide +kernel
set_option maxRecDepth 100000 in
theorem qol_8 : ql_8.all (qm_okE 19 code ret qk_197) = true := by decide +kernel
set_option maxRecDepth 100000 in
theorem qol_9 : ql_9.all (qm_okE 19 code ret qk_197) = true := by decide +kernel
set_option maxRecDepth 100000 in
theorem qol_10 : ql_10.all (qm_okE 19 code ret qk_197) = true := by decide +kernel
set_option maxRecDepth 100000 in
theorem qol_11 : ql_11.all (qm_okE 19 code ret qk_197) = true := by decide +kernel
set_option maxRecDepth 100000 in
theorem qol_12 : ql_12.all (qm_okE 19 code ret qk_197) = true := by decide +kernel
set_option maxRecDepth 100000 in
theorem qol_13 : ql_13.all (qm_okE 19 code ret qk_197) = true := by decide +kernel
set_option maxRecDepth 100000 in
theorem qol_14 : ql_14.all (qm_okE 19 code ret qk_197) = true := by decide +kernel
set_option maxRecDepth 100000 in
theorem qol_15 : ql_15.all (qm_okE 19 code ret qk_197) = true := by decide +kernel
set_option maxRecDepth 100000 in
theorem qol_16 : ql_16.all (qm_okE 19 code ret qk_197) = true := by decide +kernel
set_option maxRecDepth 100000 in
theorem qol_17 : ql_17.all (qm_okE 19 code ret qk_197) = true := by decide +kernel
set_option maxRecDepth 100000 in
theorem qol_18 : ql_18.all (qm_okE 19 code ret qk_197) = true := by decide +kernel
set_option maxRecDepth 100000 in
theorem qol_19 : ql_19.all (qm_okE 19 code ret qk_197) = true := by decide +kernel
set_option maxRecDepth 100000 in
theorem qol_20 : ql_20.all (qm_okE 19 code ret qk_197) = true := by decide +kernel
set_option maxRecDepth 100000 in
theorem qol_21 : ql_21.all (qm_okE 19 code ret qk_197) = true := by decide +kernel
set_option maxRecDepth 100000 in
theorem qol_22 : ql_22.all (qm_okE 19 code ret qk_197) = true := by decide +kernel
set_option maxRecDepth 100000 in
theorem qol_23 : ql_23.all (qm_okE 19 code ret qk_197) = true := by decide +kernel
set_option maxRecDepth 100000 in
theorem qol_24 : ql_24.all (qm_okE 19 code ret qk_197) = true := by decide +kernel
set_option maxRecDepth 100000 in
theorem qol_25 : ql_25.all (qm_okE 19 code ret qk_197) = true := by decide +kernel
set_option maxRecDepth 100000 in
theorem qol_26 : ql_26.all (qm_okE 19 code ret qk_197) = true := by decide +kernel
set_option maxRecDepth 100000 in
theorem qol_27 : ql_27.all (qm_okE 19 code ret qk_197) = true := by decide +kernel
set_option maxRecDepth 100000 in
theorem qol_28 : ql_28.all (qm_okE 19 code ret qk_197) = true := by decide +kernel
set_option maxRecDepth 100000 in
theorem qol_29 : ql_29.all (qm_okE 19 code ret qk_197) = true := by decide +kernel
