/-! summaries, checked -/
theorem oz_159_0 : rj_okK sm_159 [sm_150, sm_148, sm_158] 0 = true := by decide +kernel
