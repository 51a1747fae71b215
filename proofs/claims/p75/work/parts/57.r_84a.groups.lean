/-! the law's cases, by groups -/
def lw_g (a n : Nat) : Bool := match lw_A with
  | none => false
  | some sts => ((sts.drop a).take n).all (fun t => (lw_sp (lw_pts t.1) [t.2.2.2.2.1]).all (lw_B1 t))
theorem lwg_ok {c k : Nat} (hc : 0 < c) (h : lw_g (c * (k / c)) c = true) : lw_k k = true := by
  unfold lw_g at h
  unfold lw_k
  split at h
  · cases h
  · rename_i sts hA
    rw [hA]
    dsimp only
    split
    · rfl
    · rename_i t ht
      refine List.all_eq_true.mp h t (List.mem_of_getElem? (i := k % c) ?_)
      rw [List.getElem?_take, if_pos (Nat.mod_lt k hc), List.getElem?_drop, Nat.div_add_mod]
      exact ht
