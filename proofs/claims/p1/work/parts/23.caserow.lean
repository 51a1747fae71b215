/-! the case of row, by its first number -/
def st1E (t : Nat) (x : Int × Int) : ri_S := (t, lo1, [], hp1, [(-2147483648, 2147483647), x, (-2147483648, 2147483647), (-2147483648, 2147483647), (-2147483648, 2147483647), (-2147483648, 2147483647)], 172, 8065)
def ri_lawE (t : Nat) (x : Int × Int) : Bool := match ri_run ct_law (ri_step 10 (some 6) false 4 600000 7302249 (ri_callT 12)) 100000 (st1E t x) with
  | none => false
  | some sts => sts.all ri_end1
theorem law_ra : ri_lawE 2207 (-2147483648, -1) = true := by decide +kernel
theorem law_rb : ri_lawE 2207 (0, 0) = true := by decide +kernel
theorem law_rc : ri_lawE 2207 (1, 1) = true := by decide +kernel
theorem law_rd : ri_lawE 2207 (2, 2) = true := by decide +kernel
theorem law_re : ri_lawE 2207 (3, 3) = true := by decide +kernel
theorem law_rf : ri_lawE 2207 (4, 2147483647) = true := by decide +kernel
