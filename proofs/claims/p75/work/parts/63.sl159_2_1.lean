/-! slices -/
theorem ot_159_2_1 : rj_okT sm_159 [sm_150, sm_148, sm_158] (31, 0, 99999) (2 * 4) 2 (2 * 1) 2 = true := by decide +kernel
