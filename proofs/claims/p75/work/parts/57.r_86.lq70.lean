/-! a law's case, its points put together -/
theorem lf_70 : lw_f 2184 = true := by
  refine lwf_q (c2 := 1) (M := 5) (by decide) (by decide) ?_
  intro j hj
  match j, hj with
  | 0, _ => exact lq_70_0
  | 1, _ => exact lq_70_1
  | 2, _ => exact lq_70_2
  | 3, _ => exact lq_70_3
  | 4, _ => exact lq_70_4
  | n + 5, hj => exact absurd hj (by omega)
