/-! what the tables say, in the words of the rows -/
theorem tb_in {u : List Cond} {ps : List Nat} (h : u = ps.filterMap (fun i => lw_tbl[i]?) ∧ u.all goodWord = true) : ∀ w ∈ u, w ∈ tb := by
  intro w hw
  have hg := List.all_eq_true.mp h.2 w hw
  have hw2 := hw
  rw [h.1] at hw2
  obtain ⟨i, -, hi⟩ := List.mem_filterMap.mp hw2
  exact tb_mem i hi (by unfold ri_okw; rw [hg]; rfl)
theorem tb_cl {ci : Nat} {q : vw_C} (h : vwCl[ci]? = some q) : (∀ k, k < q.2.2 → parseFieldDescriptor (q.2.1 k).2.2.1 = some (ri_ty ci k)) ∧ (∀ a, a < q.2.2 → ∀ b, b < q.2.2 → a ≠ b → (q.2.1 a).2.1 ≠ (q.2.1 b).2.1) ∧ (∀ w ∈ u_ws q.1 q.2.1 q.2.2, w ∈ tb) := by
  match ci, h with
  | 0, h => cases h; exact ⟨tyX0_ok, nmX0, tb_in tb_u0⟩
  | 1, h => cases h; exact ⟨tyX1_ok, nmX1, tb_in tb_u1⟩
  | 2, h => cases h; exact ⟨tyX2_ok, nmX2, tb_in tb_u2⟩
  | 3, h => cases h; exact ⟨tyX3_ok, nmX3, tb_in tb_u3⟩
  | 4, h => cases h; exact ⟨tyX4_ok, nmX4, tb_in tb_u4⟩
  | 5, h => cases h; exact ⟨tyX5_ok, nmX5, tb_in tb_u5⟩
  | 6, h => cases h; exact ⟨tyX6_ok, nmX6, tb_in tb_u6⟩
  | 7, h => cases h; exact ⟨tyX7_ok, nmX7, tb_in tb_u7⟩
  | 8, h => cases h; exact ⟨tyX8_ok, nmX8, tb_in tb_u8⟩
  | 9, h => cases h; exact ⟨tyX9_ok, nmX9, tb_in tb_u9⟩
  | n + 10, h => simp [vwCl] at h
theorem ri_own10 (n : Nat) : ri_own (n + 10) = ri_own 10 := by
  have h : ∀ k, vwCl[k + 10]? = none := fun k => by simp [vwCl]
  unfold ri_own
  rw [h n, show vwCl[10]? = none from h 0]
theorem tb_f_all (o : Nat) : (tb_f o).all (ri_fok o) = true := by
  match o with
  | 0 => exact tb_f0_ok
  | 1 => exact tb_f1_ok
  | 2 => exact tb_f2_ok
  | 3 => exact tb_f3_ok
  | 4 => exact tb_f4_ok
  | 5 => exact tb_f5_ok
  | 6 => exact tb_f6_ok
  | 7 => exact tb_f7_ok
  | 8 => exact tb_f8_ok
  | 9 => exact tb_f9_ok
  | n + 10 => rfl
theorem tb_f_mem {o idx ci k p : Nat} (h : ri_key (tb_f o) idx = some (ci, k, p)) : ∃ q, vwCl[ci]? = some q ∧ k < q.2.2 ∧ Cond.fieldLink (ri_own o) idx (q.2.1 k).1 (q.2.1 k).2.1 (q.2.1 k).2.2.1 ∈ tb := by
  have h1 := List.all_eq_true.mp (tb_f_all o) _ (rk_mem h)
  unfold ri_fok at h1
  dsimp only at h1
  cases hq : vwCl[ci]? with
  | none => rw [hq] at h1; cases h1
  | some q =>
    rw [hq] at h1
    dsimp only at h1
    rw [Bool.and_eq_true, decide_eq_true_eq, decide_eq_true_eq] at h1
    exact ⟨q, rfl, h1.1, tb_mem p h1.2 rfl⟩
theorem ri_own_c {n : Nat} : ri_cok (n + 10) = ri_cok 10 := by
  funext x
  unfold ri_cok
  rw [ri_own10]
theorem tb_c_all (o : Nat) : (tb_c o).all (ri_cok o) = true := by
  match o with
  | 0 => exact tb_c0_ok
  | 1 => exact tb_c1_ok
  | 2 => exact tb_c2_ok
  | 3 => exact tb_c3_ok
  | 4 => exact tb_c4_ok
  | 5 => exact tb_c5_ok
  | 6 => exact tb_c6_ok
  | 7 => exact tb_c7_ok
  | 8 => exact tb_c8_ok
  | 9 => exact tb_c9_ok
  | n + 10 =>
    rw [ri_own_c]
    exact tb_c10_ok
theorem tb_c_mem {o idx ci : Nat} {r : Nat × Nat × Nat} (h : ri_key (tb_c o) idx = some (ci, r)) : ∃ q, vwCl[ci]? = some q ∧ Cond.classLink (ri_own o) idx q.1 ∈ tb ∧ Cond.instantiable q.1 q.2.2 ∈ tb ∧ Cond.initialized q.1 ∈ tb := by
  obtain ⟨p1, p2, p3⟩ := r
  have h1 := List.all_eq_true.mp (tb_c_all o) _ (rk_mem h)
  unfold ri_cok at h1
  dsimp only at h1
  cases hq : vwCl[ci]? with
  | none => rw [hq] at h1; cases h1
  | some q =>
    rw [hq] at h1
    dsimp only at h1
    rw [Bool.and_eq_true, Bool.and_eq_true, decide_eq_true_eq, decide_eq_true_eq, decide_eq_true_eq] at h1
    exact ⟨q, rfl, tb_mem p1 h1.1 rfl, tb_mem p2 h1.2.1 rfl, tb_mem p3 h1.2.2 rfl⟩
theorem ri_own_k {n : Nat} : ri_kok (n + 10) = ri_kok 10 := by
  funext x
  unfold ri_kok
  rw [ri_own10]
theorem tb_k_all (o : Nat) : (tb_k o).all (ri_kok o) = true := by
  match o with
  | 0 => exact tb_k0_ok
  | 1 => exact tb_k1_ok
  | 2 => exact tb_k2_ok
  | 3 => exact tb_k3_ok
  | 4 => exact tb_k4_ok
  | 5 => exact tb_k5_ok
  | 6 => exact tb_k6_ok
  | 7 => exact tb_k7_ok
  | 8 => exact tb_k8_ok
  | 9 => exact tb_k9_ok
  | n + 10 =>
    rw [ri_own_k]
    exact tb_k10_ok
theorem tb_k_mem {o idx p : Nat} {n : Int} (h : ri_key (tb_k o) idx = some (n, p)) : Cond.constantLong (ri_own o) idx (Int64.ofInt n) ∈ tb ∧ (Int64.ofInt n).toInt = n := by
  have h1 := List.all_eq_true.mp (tb_k_all o) _ (rk_mem h)
  unfold ri_kok at h1
  dsimp only at h1
  rw [Bool.and_eq_true, decide_eq_true_eq, decide_eq_true_eq] at h1
  exact ⟨tb_mem p h1.1 rfl, h1.2⟩
theorem ri_own_i {n : Nat} : ri_iok (n + 10) = ri_iok 10 := by
  funext x
  unfold ri_iok
  rw [ri_own10]
theorem tb_i_all (o : Nat) : (tb_i o).all (ri_iok o) = true := by
  match o with
  | 0 => exact tb_i0_ok
  | 1 => exact tb_i1_ok
  | 2 => exact tb_i2_ok
  | 3 => exact tb_i3_ok
  | 4 => exact tb_i4_ok
  | 5 => exact tb_i5_ok
  | 6 => exact tb_i6_ok
  | 7 => exact tb_i7_ok
  | 8 => exact tb_i8_ok
  | 9 => exact tb_i9_ok
  | n + 10 =>
    rw [ri_own_i]
    exact tb_i10_ok
theorem tb_i_mem {o idx p : Nat} {n : Int} (h : ri_key (tb_i o) idx = some (n, p)) : Cond.constant (ri_own o) idx (Int32.ofInt n) ∈ tb ∧ (Int32.ofInt n).toInt = n := by
  have h1 := List.all_eq_true.mp (tb_i_all o) _ (rk_mem h)
  unfold ri_iok at h1
  dsimp only at h1
  rw [Bool.and_eq_true, decide_eq_true_eq, decide_eq_true_eq] at h1
  exact ⟨tb_mem p h1.1 rfl, h1.2⟩
theorem ri_own_l {n : Nat} : ri_lok (n + 10) = ri_lok 10 := by
  funext x
  unfold ri_lok
  rw [ri_own10]
theorem tb_l_all (o : Nat) : (tb_l o).all (ri_lok o) = true := by
  match o with
  | 0 => exact tb_l0_ok
  | 1 => exact tb_l1_ok
  | 2 => exact tb_l2_ok
  | 3 => exact tb_l3_ok
  | 4 => exact tb_l4_ok
  | 5 => exact tb_l5_ok
  | 6 => exact tb_l6_ok
  | 7 => exact tb_l7_ok
  | 8 => exact tb_l8_ok
  | 9 => exact tb_l9_ok
  | n + 10 =>
    rw [ri_own_l]
    exact tb_l10_ok
/-- what goes with a call: the words at the callee's start -/
theorem tb_pay {args : Array Value} {s : State} (hts : ∀ w ∈ tb, w.before args s = true) : ∀ w ∈ tb, ∀ (a' : Array Value) (U : State), s.WarmedH U.vm → w.before a' U = true := by
  intro w hw a' U hW
  have hb := hts w hw
  obtain ⟨-, hg⟩ := List.mem_filter.mp hw
  unfold ri_okw at hg
  rw [Bool.or_eq_true] at hg
  rcases hg with hg | hg
  · exact word_at hW (good_of_word hg) hb
  · split at hg
    · exact va_Nw.use rfl (va_Nw.warmM hW (va_Nw.of rfl hb))
    · exact va_AO.use (va_AO.moved hW.alike (va_AO.of hb))
    · cases hg
theorem tb_ao_mem {ci : Nat} {q : vw_C} (h : vwCl[ci]? = some q) (hc : (Nat.beq ci 3 || Nat.beq ci 6) = true) : Cond.arrayOver (.object q.1) ∈ tb := by
  rw [Bool.or_eq_true] at hc
  rcases hc with hc | hc
  · have := Nat.eq_of_beq_eq_true hc
    subst this
    cases h
    exact tb_mem _ tb_ao.1 rfl
  · have := Nat.eq_of_beq_eq_true hc
    subst this
    cases h
    exact tb_mem _ tb_ao.2 rfl
theorem tb_decl {ci : Nat} {q : vw_C} (h : vwCl[ci]? = some q) : ∀ k, k < q.2.2 → (q.2.1 k).1 = q.1 := by
  match ci, h with
  | 0, h => cases h; decide +kernel
  | 1, h => cases h; decide +kernel
  | 2, h => cases h; decide +kernel
  | 3, h => cases h; decide +kernel
  | 4, h => cases h; decide +kernel
  | 5, h => cases h; decide +kernel
  | 6, h => cases h; decide +kernel
  | 7, h => cases h; decide +kernel
  | 8, h => cases h; decide +kernel
  | 9, h => cases h; decide +kernel
  | n + 10, h => simp [vwCl] at h
