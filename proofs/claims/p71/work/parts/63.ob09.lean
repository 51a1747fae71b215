/-! summaries, checked -/
theorem oz_112 : rj_ok sm_112 [sm_101, sm_21, sm_20, sm_103, sm_104, sm_89] = true := by decide +kernel
