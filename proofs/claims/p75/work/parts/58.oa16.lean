/-! summaries, checked -/
theorem oz_220 : rj_ok sm_220 [sm_219] = true := by decide +kernel
theorem oz_221 : rj_ok sm_221 [sm_219, sm_217, sm_165] = true := by decide +kernel
theorem oz_222 : rj_ok sm_222 [sm_217] = true := by decide +kernel
theorem oz_223 : rj_ok sm_223 [sm_163, sm_171, sm_191] = true := by decide +kernel
theorem oz_224 : rj_ok sm_224 [sm_172, sm_183, sm_163, sm_171] = true := by decide +kernel
theorem oz_225 : rj_ok sm_225 [sm_172, sm_191, sm_163, sm_171] = true := by decide +kernel
theorem oz_228 : rj_ok sm_228 [sm_165] = true := by decide +kernel
theorem oz_229 : rj_ok sm_229 [sm_217, sm_228] = true := by decide +kernel
theorem oz_230 : rj_ok sm_230 [sm_229, sm_217, sm_228] = true := by decide +kernel
theorem oz_231 : rj_ok sm_231 [sm_229] = true := by decide +kernel
theorem oz_232 : rj_ok sm_232 [sm_163, sm_171, sm_183] = true := by decide +kernel
