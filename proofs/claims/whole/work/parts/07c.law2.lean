set_option maxRecDepth 100000 in
theorem qol_60 : ql_60.all (qm_okE 19 code ret qk_197) = true := by decide +kernel
set_option maxRecDepth 100000 in
theorem qol_61 : ql_61.all (qm_okE 19 code ret qk_197) = true := by decide +kernel
set_option maxRecDepth 100000 in
theorem qol_62 : ql_62.all (qm_okE 19 code ret qk_197) = true := by decide +kernel
set_option maxRecDepth 100000 in
theorem qol_63 : ql_63.all (qm_okE 19 code ret qk_197) = true := by decide +kernel
set_option maxRecDepth 100000 in
theorem qol_64 : ql_64.all (qm_okE 19 code ret qk_197) = true := by decide +kernel
set_option maxRecDepth 100000 in
theorem qol_65 : ql_65.all (qm_okE 19 code ret qk_197) = true := by decide +kernel
set_option maxRecDepth 100000 in
theorem qol_66 : ql_66.all (qm_okE 19 code ret qk_197) = true := by decide +kernel
set_option maxRecDepth 100000 in
theorem qol_67 : ql_67.all (qm_okE 19 code ret qk_197) = true := by decide +kernel
set_option maxRecDepth 100000 in
theorem qol_68 : ql_68.all (qm_okE 19 code ret qk_197) = true := by decide +kernel
set_option maxRecDepth 100000 in
theorem qol_69 : ql_69.all (qm_okE 19 code ret qk_197) = true := by decide +kernel
set_option maxRecDepth 100000 in
theorem qol_70 : ql_70.all (qm_okE 19 code ret qk_197) = true := by decide +kernel
set_option maxRecDepth 100000 in
theorem qol_71 : ql_71.all (qm_okE 19 code ret qk_197) = true := by decide +kernel
set_option maxRecDepth 100000 in
theorem qol_72 : ql_72.all (qm_okE 19 code ret qk_197) = true := by decide +kernel
set_option maxRecDepth 100000 in
theorem qol_73 : ql_73.all (qm_okE 19 code ret qk_197) = true := by decide +kernel
set_option maxRecDepth 100000 in
theorem qol_74 : ql_74.all (qm_okE 19 code ret qk_197) = true := by decide +kernel
set_option maxRecDepth 100000 in
theorem qol_75 : ql_75.all (qm_okE 19 code ret qk_197) = true := by decide +kernel
set_option maxRecDepth 100000 in
theorem qol_76 : ql_76.all (qm_okE 19 code ret qk_197) = true := by decide +kernel
set_option maxRecDepth 100000 in
theorem qol_77 : ql_77.all (qm_okE 19 code ret qk_197) = true := by decide +kernel
set_option maxRecDepth 100000 in
theorem qol_78 : ql_78.all (qm_okE 19 code ret qk_197) = true := by decide +kernel
set_option maxRecDepth 100000 in
theorem qol_79 : ql_79.all (qm_okE 19 code ret qk_197) = true := by decide +kernel
set_option maxRecDepth 100000 in
theorem qol_80 : ql_80.all (qm_okE 19 code ret qk_197) = true := by decide +kernel
set_option maxRecDepth 100000 in
theorem qol_81 : ql_81.all (qm_okE 19 code ret qk_197) = true := by decide +kernel
set_option maxRecDepth 100000 in
theorem qol_82 : ql_82.all (qm_okE 19 code ret qk_197) = true := by decide +kernel
set_option maxRecDepth 100000 in
theorem qol_83 : ql_83.all (qm_okE 19 code ret qk_197) = true := by decide +kernel
set_option maxRecDepth 100000 in
theorem qol_84 : ql_84.all (qm_okE 19 code ret qk_197) = true := by decide +kernel
set_option maxRecDepth 100000 in
theorem qol_85 : ql_85.all (qm_okE 19 code ret qk_197) = true := by decide +kernel
