/-! summaries, checked -/
theorem oz_107 : rj_ok sm_107 [sm_101, sm_21, sm_20, sm_103, sm_104] = true := by decide +kernel
