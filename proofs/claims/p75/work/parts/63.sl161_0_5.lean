/-! slices -/
theorem ol_161_0_5 : rj_okL sm_161 [sm_148, sm_149, sm_160, sm_150, sm_151, sm_152, sm_153, sm_154] 27 (112, 13, 129) (1 * 6) 0 (1 * 5) 1 = true := by decide +kernel
