/-! summaries, checked -/
theorem oz_5_3 : rj_okK sm_5 [sm_3, sm_4] 3 = true := by decide +kernel
