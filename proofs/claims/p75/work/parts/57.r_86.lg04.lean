/-! the law's cases, checked -/
theorem lg_3 : lw_g 24 8 = true := by decide +kernel
