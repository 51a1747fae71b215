/-! slices -/
theorem on_161 : rj_okN sm_161 1 = true := by decide +kernel
