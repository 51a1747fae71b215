/-! summaries, checked -/
theorem oz_110 : rj_ok sm_110 [sm_101, sm_21, sm_20, sm_103, sm_104, sm_109] = true := by decide +kernel
