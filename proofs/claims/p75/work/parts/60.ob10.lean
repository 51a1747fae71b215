/-! summaries, checked -/
theorem oz_113 : rj_ok sm_113 [sm_21, sm_103] = true := by decide +kernel
