/-! summaries, checked -/
theorem oz_237 : rj_ok sm_237 [sm_163, sm_171, sm_183, sm_226] = true := by decide +kernel
theorem oz_238 : rj_ok sm_238 [sm_163, sm_171, sm_191] = true := by decide +kernel
theorem oz_239 : rj_ok sm_239 [sm_163, sm_171, sm_191] = true := by decide +kernel
theorem oz_240 : rj_ok sm_240 [sm_163, sm_171, sm_191] = true := by decide +kernel
theorem oz_241 : rj_ok sm_241 [sm_163, sm_171, sm_165, sm_183] = true := by decide +kernel
theorem oz_242 : rj_ok sm_242 [sm_241] = true := by decide +kernel
