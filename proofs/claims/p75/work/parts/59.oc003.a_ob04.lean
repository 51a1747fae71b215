/-! summaries, checked -/
theorem oz_105 : rj_ok sm_105 [sm_101, sm_21, sm_20, sm_103, sm_104] = true := by decide +kernel
