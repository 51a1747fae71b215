/-! summaries, checked -/
theorem oz_5_0 : rj_okK sm_5 [sm_3, sm_4] 0 = true := by decide +kernel
