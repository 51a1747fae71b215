/-! summaries, checked -/
theorem oz_5_1 : rj_okK sm_5 [sm_3, sm_4] 1 = true := by decide +kernel
