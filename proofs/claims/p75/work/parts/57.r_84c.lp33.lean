/-! the law's cases, checked -/
theorem lq_73_33 : lw_q 2323 (1 * 36) (1 * 33) 1 = true := by decide +kernel
