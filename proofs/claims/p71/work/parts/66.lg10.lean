/-! the law's cases, checked -/
theorem lg_9 : lw_g 72 8 = true := by decide +kernel
