/-! summaries, checked -/
theorem oz_159_1 : rj_okK sm_159 [sm_150, sm_148, sm_158] 1 = true := by decide +kernel
