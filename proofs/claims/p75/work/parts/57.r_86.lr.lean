/-! groups put together -/
theorem lwg_app {a n1 n2 : Nat} (h1 : lw_g a n1 = true) (h2 : lw_g (a + n1) n2 = true) : lw_g a (n1 + n2) = true := by
  cases hA : lw_A with
  | none => unfold lw_g at h1; rw [hA] at h1; cases h1
  | some sts =>
    unfold lw_g at h1 h2 ⊢
    rw [hA] at h1 h2 ⊢
    dsimp only at h1 h2 ⊢
    rw [List.take_add, List.drop_drop, List.all_append, h1, h2]
    rfl
theorem lg_8 : lw_g 64 8 = true := lwg_app (n1 := 7) (n2 := 1) (lwg_app (n1 := 4) (n2 := 3) lh_64 lh_68) lh_71
theorem lg_9 : lw_g 72 8 = true := lwg_f lj_9 (List.forall_mem_cons.mpr ⟨lf_70, (List.forall_mem_cons.mpr ⟨lf_71, (List.forall_mem_cons.mpr ⟨lf_73, (fun _ h => absurd h List.not_mem_nil)⟩)⟩)⟩)
