/-! the law's cases, checked -/
theorem lh_71 : lw_g 71 1 = true := by decide +kernel
