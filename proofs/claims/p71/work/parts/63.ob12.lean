/-! summaries, checked -/
theorem oz_170 : rj_ok sm_170 [sm_168, sm_166, sm_169] = true := by decide +kernel
