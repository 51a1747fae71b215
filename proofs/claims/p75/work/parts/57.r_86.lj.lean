/-! the law's cases, checked -/
theorem lj_9 : lw_g2 [2184, 2207, 2323] 72 8 = true := by decide +kernel
