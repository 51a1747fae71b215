/-! summaries, checked -/
theorem oz_5_2 : rj_okK sm_5 [sm_3, sm_4] 2 = true := by decide +kernel
