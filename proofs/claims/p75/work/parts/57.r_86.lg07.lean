/-! the law's cases, checked -/
theorem lg_6 : lw_g 48 8 = true := by decide +kernel
