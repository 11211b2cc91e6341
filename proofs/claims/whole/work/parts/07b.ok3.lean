set_option maxRecDepth 100000 in
theorem qo_150 : qm_okK 12 cX12_goes_ none qk_150 = true := by decide +kernel
set_option maxRecDepth 100000 in
theorem qo_151 : qm_okK 12 cX12_goMorning none qk_151 = true := by decide +kernel
set_option maxRecDepth 100000 in
theorem qo_152 : qm_okK 12 cX12_goMornings none qk_152 = true := by decide +kernel
set_option maxRecDepth 100000 in
theorem qo_153 : qm_okK 12 cX12_pass (some .int) qk_153 = true := by decide +kernel
set_option maxRecDepth 100000 in
theorem qo_154 : qm_okK 12 cX12_save none qk_154 = true := by decide +kernel
set_option maxRecDepth 100000 in
theorem qo_155 : qm_okK 12 cX12_putBack none qk_155 = true := by decide +kernel
set_option maxRecDepth 100000 in
theorem qo_156 : qm_okK 12 cX12_on (some .int) qk_156 = true := by decide +kernel
set_option maxRecDepth 100000 in
theorem qo_157 : qm_okK 12 cX12_fills (some .int) qk_157 = true := by decide +kernel
set_option maxRecDepth 100000 in
theorem qo_158 : qm_okK 12 cX12_deepBy (some .int) qk_158 = true := by decide +kernel
set_option maxRecDepth 100000 in
theorem qo_159 : qm_okK 12 cX12_sent (some .int) qk_159 = true := by decide +kernel
set_option maxRecDepth 100000 in
theorem qo_160 : qm_okK 12 cX12_stop (some .int) qk_160 = true := by decide +kernel
set_option maxRecDepth 100000 in
theorem qo_161 : qm_okK 12 cX12_best (some .int) qk_161 = true := by decide +kernel
set_option maxRecDepth 100000 in
theorem qo_162 : qm_okK 12 cX12_see (some .int) qk_162 = true := by decide +kernel
set_option maxRecDepth 100000 in
theorem qo_163 : qm_okK 12 cX12_isSeen (some .boolean) qk_163 = true := by decide +kernel
set_option maxRecDepth 100000 in
theorem qo_164 : qm_okK 12 cX12_owes (some .int) qk_164 = true := by decide +kernel
set_option maxRecDepth 100000 in
theorem qo_165 : qm_okK 12 cX12_of (some .int) qk_165 = true := by decide +kernel
set_option maxRecDepth 100000 in
theorem qo_166 : qm_okK 12 cX12_can (some .int) qk_166 = true := by decide +kernel
set_option maxRecDepth 100000 in
theorem qo_167 : qm_okK 12 cX12_divisor (some .int) qk_167 = true := by decide +kernel
set_option maxRecDepth 100000 in
theorem qo_168 : qm_okK 12 cX12_lowest (some .long) qk_168 = true := by decide +kernel
set_option maxRecDepth 100000 in
theorem qo_169 : qm_okK 12 cX12_odds (some .long) qk_169 = true := by decide +kernel
set_option maxRecDepth 100000 in
theorem qo_170 : qm_okK 12 cX12_mean (some .long) qk_170 = true := by decide +kernel
set_option maxRecDepth 100000 in
theorem qo_171 : qm_okK 12 cX12_plan (some .int) qk_171 = true := by decide +kernel
set_option maxRecDepth 100000 in
theorem qo_172 : qm_okK 12 cX12_goPlan none qk_172 = true := by decide +kernel
set_option maxRecDepth 100000 in
theorem qo_173 : qm_okK 12 cX12_ends (some .int) qk_173 = true := by decide +kernel
set_option maxRecDepth 100000 in
theorem qo_174 : qm_okK 12 cX12_book (some .int) qk_174 = true := by decide +kernel
set_option maxRecDepth 100000 in
theorem qo_175 : qm_okK 12 cX12_looked (some .int) qk_175 = true := by decide +kernel
set_option maxRecDepth 100000 in
theorem qo_176 : qm_okK 12 cX12_judge (some .int) qk_176 = true := by decide +kernel
set_option maxRecDepth 100000 in
theorem qo_177 : qm_okK 12 cX12_image (some .int) qk_177 = true := by decide +kernel
set_option maxRecDepth 100000 in
theorem qo_178 : qm_okK 12 cX12_undo (some .int) qk_178 = true := by decide +kernel
set_option maxRecDepth 100000 in
theorem qo_179 : qm_okK 12 cX12_body none qk_179 = true := by decide +kernel
set_option maxRecDepth 100000 in
theorem qo_180 : qm_okK 12 cX12_oneRolls (some .int) qk_180 = true := by decide +kernel
set_option maxRecDepth 100000 in
theorem qo_181 : qm_okK 12 cX12_rollsAct (some .int) qk_181 = true := by decide +kernel
set_option maxRecDepth 100000 in
theorem qo_182 : qm_okK 12 cX12_oneYawns (some .int) qk_182 = true := by decide +kernel
set_option maxRecDepth 100000 in
theorem qo_183 : qm_okK 12 cX12_lodgerYawns (some .int) qk_183 = true := by decide +kernel
set_option maxRecDepth 100000 in
theorem qo_184 : qm_okK 12 cX12_yawnsAct (some .int) qk_184 = true := by decide +kernel
set_option maxRecDepth 100000 in
theorem qo_185 : qm_okK 12 cX12_oneTells (some .int) qk_185 = true := by decide +kernel
set_option maxRecDepth 100000 in
theorem qo_186 : qm_okK 12 cX12_tellsAct (some .int) qk_186 = true := by decide +kernel
set_option maxRecDepth 100000 in
theorem qo_187 : qm_okK 12 cX12_act (some .int) qk_187 = true := by decide +kernel
set_option maxRecDepth 100000 in
theorem qo_188 : qm_okK 12 cX12_trace (some .int) qk_188 = true := by decide +kernel
set_option maxRecDepth 100000 in
theorem qo_189 : qm_okK 12 cX12_taken (some .int) qk_189 = true := by decide +kernel
set_option maxRecDepth 100000 in
theorem qo_190 : qm_okK 12 cX12_count (some .int) qk_190 = true := by decide +kernel
set_option maxRecDepth 100000 in
theorem qo_191 : qm_okK 12 cX12_isTape (some .boolean) qk_191 = true := by decide +kernel
set_option maxRecDepth 100000 in
theorem qo_192 : qm_okK 12 cX12_tape (some .int) qk_192 = true := by decide +kernel
set_option maxRecDepth 100000 in
theorem qo_193 : qm_okK 12 cX12_narrow (some .long) qk_193 = true := by decide +kernel
set_option maxRecDepth 100000 in
theorem qo_194 : qm_okK 12 cX12_item (some .int) qk_194 = true := by decide +kernel
set_option maxRecDepth 100000 in
theorem qo_195 : qm_okK 12 cX12_read (some .long) qk_195 = true := by decide +kernel
set_option maxRecDepth 100000 in
theorem qo_196 : qm_okK 12 cX12_shift (some .int) qk_196 = true := by decide +kernel
