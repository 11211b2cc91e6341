set_option maxRecDepth 100000 in
theorem qo_100 : qm_okK 11 cX11_lowestBits (some .long) qk_100 = true := by decide +kernel
set_option maxRecDepth 100000 in
theorem qo_101 : qm_okK 11 cX11_fraction (some .long) qk_101 = true := by decide +kernel
set_option maxRecDepth 100000 in
theorem qo_102 : qm_okK 11 cX11_isOfKind (some .boolean) qk_102 = true := by decide +kernel
set_option maxRecDepth 100000 in
theorem qo_103 : qm_okK 11 cX11_fitting (some .int) qk_103 = true := by decide +kernel
set_option maxRecDepth 100000 in
theorem qo_104 : qm_okK 11 cX11_trialIsAsSeen (some .boolean) qk_104 = true := by decide +kernel
set_option maxRecDepth 100000 in
theorem qo_105 : qm_okK 11 cX11_deepWithout (some .int) qk_105 = true := by decide +kernel
set_option maxRecDepth 100000 in
theorem qo_106 : qm_okK 11 cX11_sentBy (some .int) qk_106 = true := by decide +kernel
set_option maxRecDepth 100000 in
theorem qo_107 : qm_okK 11 cX11_stopBy (some .int) qk_107 = true := by decide +kernel
set_option maxRecDepth 100000 in
theorem qo_108 : qm_okK 11 cX11_goesByPlan none qk_108 = true := by decide +kernel
set_option maxRecDepth 100000 in
theorem qo_109 : qm_okK 12 cX12_in (some .boolean) qk_109 = true := by decide +kernel
set_option maxRecDepth 100000 in
theorem qo_110 : qm_okK 12 cX12_has (some .boolean) qk_110 = true := by decide +kernel
set_option maxRecDepth 100000 in
theorem qo_111 : qm_okK 12 cX12_least (some .int) qk_111 = true := by decide +kernel
set_option maxRecDepth 100000 in
theorem qo_112 : qm_okK 12 cX12_bits (some .int) qk_112 = true := by decide +kernel
set_option maxRecDepth 100000 in
theorem qo_113 : qm_okK 12 cX12_isOne (some .boolean) qk_113 = true := by decide +kernel
set_option maxRecDepth 100000 in
theorem qo_114 : qm_okK 12 cX12_isMany (some .boolean) qk_114 = true := by decide +kernel
set_option maxRecDepth 100000 in
theorem qo_115 : qm_okK 12 cX12_isMornings (some .boolean) qk_115 = true := by decide +kernel
set_option maxRecDepth 100000 in
theorem qo_116 : qm_okK 12 cX12_sleeper (some .int) qk_116 = true := by decide +kernel
set_option maxRecDepth 100000 in
theorem qo_117 : qm_okK 12 cX12_owe (some .int) qk_117 = true := by decide +kernel
set_option maxRecDepth 100000 in
theorem qo_118 : qm_okK 12 cX12_goes none qk_118 = true := by decide +kernel
set_option maxRecDepth 100000 in
theorem qo_119 : qm_okK 12 cX12_away (some .int) qk_119 = true := by decide +kernel
set_option maxRecDepth 100000 in
theorem qo_120 : qm_okK 12 cX12_dip (some .int) qk_120 = true := by decide +kernel
set_option maxRecDepth 100000 in
theorem qo_121 : qm_okK 12 cX12_row (some .int) qk_121 = true := by decide +kernel
set_option maxRecDepth 100000 in
theorem qo_122 : qm_okK 12 cX12_feed (some .int) qk_122 = true := by decide +kernel
set_option maxRecDepth 100000 in
theorem qo_123 : qm_okK 12 cX12_next (some .int) qk_123 = true := by decide +kernel
set_option maxRecDepth 100000 in
theorem qo_124 : qm_okK 12 cX12_takes (some .boolean) qk_124 = true := by decide +kernel
set_option maxRecDepth 100000 in
theorem qo_125 : qm_okK 12 cX12_takesWord (some .boolean) qk_125 = true := by decide +kernel
set_option maxRecDepth 100000 in
theorem qo_126 : qm_okK 12 cX12_isDigit (some .boolean) qk_126 = true := by decide +kernel
set_option maxRecDepth 100000 in
theorem qo_127 : qm_okK 12 cX12_takesNumber (some .boolean) qk_127 = true := by decide +kernel
set_option maxRecDepth 100000 in
theorem qo_128 : qm_okK 12 cX12_emits none qk_128 = true := by decide +kernel
set_option maxRecDepth 100000 in
theorem qo_129 : qm_okK 12 cX12_whole none qk_129 = true := by decide +kernel
set_option maxRecDepth 100000 in
theorem qo_130 : qm_okK 12 cX12_settle none qk_130 = true := by decide +kernel
set_option maxRecDepth 100000 in
theorem qo_131 : qm_okK 12 cX12_place (some .int) qk_131 = true := by decide +kernel
set_option maxRecDepth 100000 in
theorem qo_132 : qm_okK 12 cX12_takesTest (some .boolean) qk_132 = true := by decide +kernel
set_option maxRecDepth 100000 in
theorem qo_133 : qm_okK 12 cX12_takesE (some .boolean) qk_133 = true := by decide +kernel
set_option maxRecDepth 100000 in
theorem qo_134 : qm_okK 12 cX12_takesHead (some .boolean) qk_134 = true := by decide +kernel
set_option maxRecDepth 100000 in
theorem qo_135 : qm_okK 12 cX12_takesClause (some .boolean) qk_135 = true := by decide +kernel
set_option maxRecDepth 100000 in
theorem qo_136 : qm_okK 12 cX12_goesText (some .boolean) qk_136 = true := by decide +kernel
set_option maxRecDepth 100000 in
theorem qo_137 : qm_okK 12 cX12_street (some .int) qk_137 = true := by decide +kernel
set_option maxRecDepth 100000 in
theorem qo_138 : qm_okK 12 cX12_begin (some .int) qk_138 = true := by decide +kernel
set_option maxRecDepth 100000 in
theorem qo_139 : qm_okK 12 cX12_behind (some .int) qk_139 = true := by decide +kernel
set_option maxRecDepth 100000 in
theorem qo_140 : qm_okK 12 cX12_bear (some .int) qk_140 = true := by decide +kernel
set_option maxRecDepth 100000 in
theorem qo_141 : qm_okK 12 cX12_factOf (some .int) qk_141 = true := by decide +kernel
set_option maxRecDepth 100000 in
theorem qo_142 : qm_okK 12 cX12_holds (some .boolean) qk_142 = true := by decide +kernel
set_option maxRecDepth 100000 in
theorem qo_143 : qm_okK 12 cX12_sum (some .int) qk_143 = true := by decide +kernel
set_option maxRecDepth 100000 in
theorem qo_144 : qm_okK 12 cX12_urge (some .int) qk_144 = true := by decide +kernel
set_option maxRecDepth 100000 in
theorem qo_145 : qm_okK 12 cX12_snooze (some .int) qk_145 = true := by decide +kernel
set_option maxRecDepth 100000 in
theorem qo_146 : qm_okK 12 cX12_chain (some .int) qk_146 = true := by decide +kernel
set_option maxRecDepth 100000 in
theorem qo_147 : qm_okK 12 cX12_sumOf (some .int) qk_147 = true := by decide +kernel
set_option maxRecDepth 100000 in
theorem qo_148 : qm_okK 12 cX12_told (some .int) qk_148 = true := by decide +kernel
set_option maxRecDepth 100000 in
theorem qo_149 : qm_okK 12 cX12_comes none qk_149 = true := by decide +kernel
