/-! slices -/
theorem on_227 : rj_okN sm_227 1 = true := by decide +kernel
