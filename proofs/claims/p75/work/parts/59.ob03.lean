/-! summaries, checked -/
theorem oz_103 : rj_ok sm_103 [sm_22, sm_28, sm_102, sm_29, sm_26] = true := by decide +kernel
