/-! summaries, checked -/
theorem oz_150 : rj_ok sm_150 [sm_148] = true := by decide +kernel
theorem oz_151 : rj_ok sm_151 [sm_150, sm_148] = true := by decide +kernel
theorem oz_152 : rj_ok sm_152 [sm_150, sm_148] = true := by decide +kernel
theorem oz_153 : rj_ok sm_153 [sm_150, sm_148] = true := by decide +kernel
theorem oz_154 : rj_ok sm_154 [sm_150, sm_148] = true := by decide +kernel
theorem oz_155 : rj_ok sm_155 [sm_150, sm_148] = true := by decide +kernel
theorem oz_156 : rj_ok sm_156 [sm_150, sm_148] = true := by decide +kernel
theorem oz_157 : rj_ok sm_157 [sm_150, sm_148, sm_155, sm_156] = true := by decide +kernel
theorem oz_158 : rj_ok sm_158 [sm_150, sm_148] = true := by decide +kernel
theorem oz_160 : rj_ok sm_160 [sm_148, sm_157, sm_159] = true := by decide +kernel
