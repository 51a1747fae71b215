/-! slices -/
theorem ol_227_0_4 : rj_okL sm_227 [sm_165, sm_167, sm_217, sm_226] 28 (64, 28, 100) (11 * 6) 0 (11 * 4) 11 = true := by decide +kernel
