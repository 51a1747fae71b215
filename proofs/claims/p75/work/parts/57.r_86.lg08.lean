/-! the law's cases, checked -/
theorem lg_7 : lw_g 56 8 = true := by decide +kernel
