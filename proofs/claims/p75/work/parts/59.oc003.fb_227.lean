/-! share, with times by its summary -/
theorem oz_227 : rj_ok sm_227 [sm_165, sm_167, sm_217, sm_226, sm_tn, sm_tm] = true := by decide +kernel
