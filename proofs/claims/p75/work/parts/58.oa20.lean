/-! summaries, checked -/
theorem oz_243 : rj_ok sm_243 [sm_241] = true := by decide +kernel
theorem oz_244 : rj_ok sm_244 [sm_163, sm_165, sm_171, sm_191] = true := by decide +kernel
theorem oz_245 : rj_ok sm_245 [sm_244, sm_226] = true := by decide +kernel
theorem oz_246 : rj_ok sm_246 [sm_244, sm_226] = true := by decide +kernel
theorem oz_247 : rj_ok sm_247 [sm_244, sm_226] = true := by decide +kernel
theorem oz_248 : rj_ok sm_248 [sm_163, sm_171] = true := by decide +kernel
theorem oz_249 : rj_ok sm_249 [sm_248, sm_191] = true := by decide +kernel
theorem oz_250 : rj_ok sm_250 [sm_248] = true := by decide +kernel
