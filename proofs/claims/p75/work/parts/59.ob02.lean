/-! summaries, checked -/
theorem oz_31 : rj_ok sm_31 [sm_22, sm_28, sm_30, sm_29, sm_26] = true := by decide +kernel
