/-! slices -/
theorem ot_159_0_1 : rj_okT sm_159 [sm_150, sm_148, sm_158] (31, 0, 99999) (2 * 4) 0 (2 * 1) 2 = true := by decide +kernel
