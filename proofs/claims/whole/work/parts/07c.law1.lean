set_option maxRecDepth 100000 in
theorem qol_30 : ql_30.all (qm_okE 19 code ret qk_197) = true := by decide +kernel
set_option maxRecDepth 100000 in
theorem qol_31 : ql_31.all (qm_okE 19 code ret qk_197) = true := by decide +kernel
set_option maxRecDepth 100000 in
theorem qol_32 : ql_32.all (qm_okE 19 code ret qk_197) = true := by decide +kernel
set_option maxRecDepth 100000 in
theorem qol_33 : ql_33.all (qm_okE 19 code ret qk_197) = true := by decide +kernel
set_option maxRecDepth 100000 in
theorem qol_34 : ql_34.all (qm_okE 19 code ret qk_197) = true := by decide +kernel
set_option maxRecDepth 100000 in
theorem qol_35 : ql_35.all (qm_okE 19 code ret qk_197) = true := by decide +kernel
set_option maxRecDepth 100000 in
theorem qol_36 : ql_36.all (qm_okE 19 code ret qk_197) = true := by decide +kernel
set_option maxRecDepth 100000 in
theorem qol_37 : ql_37.all (qm_okE 19 code ret qk_197) = true := by decide +kernel
set_option maxRecDepth 100000 in
theorem qol_38 : ql_38.all (qm_okE 19 code ret qk_197) = true := by decide +kernel
set_option maxRecDepth 100000 in
theorem qol_39 : ql_39.all (qm_okE 19 code ret qk_197) = true := by decide +kernel
set_option maxRecDepth 100000 in
theorem qol_40 : ql_40.all (qm_okE 19 code ret qk_197) = true := by decide +kernel
set_option maxRecDepth 100000 in
theorem qol_41 : ql_41.all (qm_okE 19 code ret qk_197) = true := by decide +kernel
set_option maxRecDepth 100000 in
theorem qol_42 : ql_42.all (qm_okE 19 code ret qk_197) = true := by decide +kernel
set_option maxRecDepth 100000 in
theorem qol_43 : ql_43.all (qm_okE 19 code ret qk_197) = true := by decide +kernel
set_option maxRecDepth 100000 in
theorem qol_44 : ql_44.all (qm_okE 19 code ret qk_197) = true := by decide +kernel
set_option maxRecDepth 100000 in
theorem qol_45 : ql_45.all (qm_okE 19 code ret qk_197) = true := by decide +kernel
set_option maxRecDepth 100000 in
theorem qol_46 : ql_46.all (qm_okE 19 code ret qk_197) = true := by decide +kernel
set_option maxRecDepth 100000 in
theorem qol_47 : ql_47.all (qm_okE 19 code ret qk_197) = true := by decide +kernel
set_option maxRecDepth 100000 in
theorem qol_48 : ql_48.all (qm_okE 19 code ret qk_197) = true := by decide +kernel
set_option maxRecDepth 100000 in
theorem qol_49 : ql_49.all (qm_okE 19 code ret qk_197) = true := by decide +kernel
set_option maxRecDepth 100000 in
theorem qol_50 : ql_50.all (qm_okE 19 code ret qk_197) = true := by decide +kernel
set_option maxRecDepth 100000 in
theorem qol_51 : ql_51.all (qm_okE 19 code ret qk_197) = true := by decide +kernel
set_option maxRecDepth 100000 in
theorem qol_52 : ql_52.all (qm_okE 19 code ret qk_197) = true := by decide +kernel
set_option maxRecDepth 100000 in
theorem qol_53 : ql_53.all (qm_okE 19 code ret qk_197) = true := by decide +kernel
set_option maxRecDepth 100000 in
theorem qol_54 : ql_54.all (qm_okE 19 code ret qk_197) = true := by decide +kernel
set_option maxRecDepth 100000 in
theorem qol_55 : ql_55.all (qm_okE 19 code ret qk_197) = true := by decide +kernel
set_option maxRecDepth 100000 in
theorem qol_56 : ql_56.all (qm_okE 19 code ret qk_197) = true := by decide +kernel
set_option maxRecDepth 100000 in
theorem qol_57 : ql_57.all (qm_okE 19 code ret qk_197) = true := by decide +kernel
set_option maxRecDepth 100000 in
theorem qol_58 : ql_58.all (qm_okE 19 code ret qk_197) = true := by decide +kernel
set_option maxRecDepth 100000 in
theorem qol_59 : ql_59.all (qm_okE 19 code ret qk_197) = true := by decide +kernel
