/-! the law's cases, checked -/
theorem lq_73_35 : lw_q 2323 (1 * 36) (1 * 35) 1 = true := by decide +kernel
