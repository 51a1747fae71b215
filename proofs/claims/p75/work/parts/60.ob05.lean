/-! summaries, checked -/
theorem oz_106 : rj_ok sm_106 [sm_101, sm_21, sm_20, sm_103, sm_104] = true := by decide +kernel
