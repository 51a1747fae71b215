/-! summaries, checked -/
theorem oz_161 : rj_ok sm_161 [sm_148, sm_149, sm_160, sm_150, sm_151, sm_152, sm_153, sm_154] = true := by first | decide +kernel | sorry
theorem oz_162 : rj_ok sm_162 [] = true := by first | decide +kernel | sorry
theorem oz_163 : rj_ok sm_163 [] = true := by first | decide +kernel | sorry
theorem oz_164 : rj_ok sm_164 [sm_163] = true := by first | decide +kernel | sorry
theorem oz_165 : rj_ok sm_165 [] = true := by first | decide +kernel | sorry
theorem oz_166 : rj_ok sm_166 [] = true := by first | decide +kernel | sorry
theorem oz_167 : rj_ok sm_167 [] = true := by first | decide +kernel | sorry
theorem oz_168 : rj_ok sm_168 [sm_166, sm_167, sm_165] = true := by first | decide +kernel | sorry
theorem oz_169 : rj_ok sm_169 [sm_166, sm_165, sm_167] = true := by first | decide +kernel | sorry
