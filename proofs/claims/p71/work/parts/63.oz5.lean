/-! summaries, checked (5) -/
theorem oz_151 : rj_ok sm_151 [sm_149, sm_148] = true := by decide +kernel
theorem oz_152 : rj_ok sm_152 [sm_149, sm_148] = true := by decide +kernel
theorem oz_153 : rj_ok sm_153 [sm_149, sm_148] = true := by decide +kernel
theorem oz_154 : rj_ok sm_154 [sm_149, sm_148] = true := by decide +kernel
theorem oz_155 : rj_ok sm_155 [sm_149, sm_148] = true := by decide +kernel
theorem oz_156 : rj_ok sm_156 [sm_149, sm_148, sm_154, sm_155] = true := by decide +kernel
theorem oz_157 : rj_ok sm_157 [sm_149, sm_148] = true := by decide +kernel
theorem oz_159 : rj_ok sm_159 [sm_148, sm_156, sm_158] = true := by decide +kernel
theorem oz_161 : rj_ok sm_161 [] = true := by decide +kernel
theorem oz_162 : rj_ok sm_162 [] = true := by decide +kernel
theorem oz_163 : rj_ok sm_163 [sm_162] = true := by decide +kernel
theorem oz_164 : rj_ok sm_164 [] = true := by decide +kernel
theorem oz_165 : rj_ok sm_165 [] = true := by decide +kernel
theorem oz_166 : rj_ok sm_166 [] = true := by decide +kernel
theorem oz_167 : rj_ok sm_167 [sm_165, sm_166, sm_164] = true := by decide +kernel
theorem oz_168 : rj_ok sm_168 [sm_165, sm_164, sm_166] = true := by decide +kernel
theorem oz_170 : rj_ok sm_170 [sm_164, sm_169] = true := by decide +kernel
theorem oz_171 : rj_ok sm_171 [sm_162, sm_170] = true := by decide +kernel
theorem oz_172 : rj_ok sm_172 [sm_171] = true := by decide +kernel
theorem oz_173 : rj_ok sm_173 [sm_171] = true := by decide +kernel
theorem oz_174 : rj_ok sm_174 [sm_171] = true := by decide +kernel
theorem oz_175 : rj_ok sm_175 [] = true := by decide +kernel
theorem oz_176 : rj_ok sm_176 [sm_171, sm_175] = true := by decide +kernel
theorem oz_177 : rj_ok sm_177 [sm_171] = true := by decide +kernel
theorem oz_178 : rj_ok sm_178 [sm_171] = true := by decide +kernel
theorem oz_179 : rj_ok sm_179 [sm_171, sm_166] = true := by decide +kernel
theorem oz_180 : rj_ok sm_180 [sm_171] = true := by decide +kernel
theorem oz_181 : rj_ok sm_181 [sm_171] = true := by decide +kernel
theorem oz_182 : rj_ok sm_182 [] = true := by decide +kernel
theorem oz_183 : rj_ok sm_183 [sm_171, sm_182] = true := by decide +kernel
theorem oz_184 : rj_ok sm_184 [sm_171] = true := by decide +kernel
theorem oz_185 : rj_ok sm_185 [sm_171] = true := by decide +kernel
theorem oz_186 : rj_ok sm_186 [sm_171] = true := by decide +kernel
theorem oz_187 : rj_ok sm_187 [] = true := by decide +kernel
theorem oz_188 : rj_ok sm_188 [sm_171, sm_187] = true := by decide +kernel
theorem oz_189 : rj_ok sm_189 [sm_171] = true := by decide +kernel
theorem oz_190 : rj_ok sm_190 [] = true := by decide +kernel
theorem oz_191 : rj_ok sm_191 [sm_171, sm_190] = true := by decide +kernel
theorem oz_192 : rj_ok sm_192 [sm_171] = true := by decide +kernel
theorem oz_193 : rj_ok sm_193 [sm_171] = true := by decide +kernel
theorem oz_194 : rj_ok sm_194 [sm_193] = true := by decide +kernel
theorem oz_195 : rj_ok sm_195 [sm_193] = true := by decide +kernel
