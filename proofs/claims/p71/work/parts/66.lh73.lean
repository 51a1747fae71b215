/-! the law's cases, checked -/
theorem lh_73 : lw_g 73 7 = true := by decide +kernel
