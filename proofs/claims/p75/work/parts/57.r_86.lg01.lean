/-! the law's cases, checked -/
theorem lg_0 : lw_g 0 8 = true := by decide +kernel
