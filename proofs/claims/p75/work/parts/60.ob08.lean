/-! summaries, checked -/
theorem oz_111 : rj_ok sm_111 [sm_101, sm_21, sm_20, sm_103, sm_104, sm_109] = true := by decide +kernel
