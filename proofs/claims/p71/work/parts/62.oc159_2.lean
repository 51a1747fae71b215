/-! summaries, checked -/
theorem oz_159_2 : rj_okK sm_159 [sm_150, sm_148, sm_158] 2 = true := by decide +kernel
