/-! summaries, checked (6) -/
theorem oz_196 : rj_ok sm_196 [sm_171, sm_187, sm_166] = true := by decide +kernel
theorem oz_197 : rj_ok sm_197 [sm_171] = true := by decide +kernel
theorem oz_198 : rj_ok sm_198 [sm_171] = true := by decide +kernel
theorem oz_199 : rj_ok sm_199 [sm_171] = true := by decide +kernel
theorem oz_200 : rj_ok sm_200 [sm_171] = true := by decide +kernel
theorem oz_201 : rj_ok sm_201 [sm_171] = true := by decide +kernel
theorem oz_202 : rj_ok sm_202 [sm_171] = true := by decide +kernel
theorem oz_203 : rj_ok sm_203 [sm_171] = true := by decide +kernel
theorem oz_204 : rj_ok sm_204 [] = true := by decide +kernel
theorem oz_205 : rj_ok sm_205 [sm_171, sm_204] = true := by decide +kernel
theorem oz_206 : rj_ok sm_206 [sm_170, sm_190] = true := by decide +kernel
theorem oz_207 : rj_ok sm_207 [sm_206, sm_170, sm_190] = true := by decide +kernel
theorem oz_208 : rj_ok sm_208 [sm_207, sm_170, sm_190] = true := by decide +kernel
theorem oz_209 : rj_ok sm_209 [sm_208, sm_170, sm_190] = true := by decide +kernel
theorem oz_210 : rj_ok sm_210 [sm_209, sm_170, sm_190] = true := by decide +kernel
theorem oz_211 : rj_ok sm_211 [sm_210, sm_170, sm_190] = true := by decide +kernel
theorem oz_212 : rj_ok sm_212 [sm_211, sm_170, sm_190] = true := by decide +kernel
theorem oz_213 : rj_ok sm_213 [sm_162, sm_212] = true := by decide +kernel
theorem oz_214 : rj_ok sm_214 [sm_162, sm_212] = true := by decide +kernel
theorem oz_215 : rj_ok sm_215 [sm_162, sm_212] = true := by decide +kernel
theorem oz_216 : rj_ok sm_216 [sm_162, sm_170, sm_190, sm_166] = true := by decide +kernel
theorem oz_217 : rj_ok sm_217 [sm_162, sm_170, sm_190] = true := by decide +kernel
theorem oz_218 : rj_ok sm_218 [sm_217] = true := by decide +kernel
theorem oz_219 : rj_ok sm_219 [sm_217, sm_162, sm_170, sm_190, sm_164] = true := by decide +kernel
theorem oz_220 : rj_ok sm_220 [sm_162, sm_170, sm_190] = true := by decide +kernel
theorem oz_221 : rj_ok sm_221 [sm_162, sm_170, sm_190] = true := by decide +kernel
theorem oz_222 : rj_ok sm_222 [sm_171, sm_182, sm_162, sm_170] = true := by decide +kernel
theorem oz_223 : rj_ok sm_223 [sm_171, sm_190, sm_162, sm_170] = true := by decide +kernel
theorem oz_226 : rj_ok sm_226 [sm_164] = true := by decide +kernel
theorem oz_227 : rj_ok sm_227 [sm_162, sm_170, sm_190, sm_226] = true := by decide +kernel
theorem oz_228 : rj_ok sm_228 [sm_227, sm_162, sm_170, sm_190, sm_226] = true := by decide +kernel
theorem oz_229 : rj_ok sm_229 [sm_227] = true := by decide +kernel
theorem oz_230 : rj_ok sm_230 [sm_162, sm_170, sm_182] = true := by decide +kernel
