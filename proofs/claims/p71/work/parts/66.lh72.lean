/-! the law's cases, checked -/
theorem lh_72 : lw_g 72 1 = true := by decide +kernel
