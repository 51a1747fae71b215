/-! a law's case by its points -/
def lw_g2 (Ps : List Nat) (a n : Nat) : Bool := match lw_A with
  | none => false
  | some sts => ((sts.drop a).take n).all (fun t => Ps.any (Nat.beq t.1) || (lw_sp (lw_pts t.1) [t.2.2.2.2.1]).all (lw_B1 t))
def lw_q (P NN a n : Nat) : Bool := match lw_A with
  | none => false
  | some sts => sts.all (fun t => !(Nat.beq t.1 P) || (Nat.ble (lw_sp (lw_pts t.1) [t.2.2.2.2.1]).length NN && (((lw_sp (lw_pts t.1) [t.2.2.2.2.1]).drop a).take n).all (lw_B1 t)))
def lw_f (P : Nat) : Bool := match lw_A with
  | none => false
  | some sts => sts.all (fun t => !(Nat.beq t.1 P) || (lw_sp (lw_pts t.1) [t.2.2.2.2.1]).all (lw_B1 t))
theorem lwf_q {c2 M P : Nat} (hc2 : 0 < c2) (hM : 0 < M) (hq : ∀ j, j < M → lw_q P (c2 * M) (c2 * j) c2 = true) : lw_f P = true := by
  have h0 := hq 0 hM
  cases hA : lw_A with
  | none => unfold lw_q at h0; rw [hA] at h0; cases h0
  | some sts =>
    unfold lw_f
    rw [hA]
    dsimp only
    refine List.all_eq_true.mpr (fun t ht => ?_)
    cases h1 : Nat.beq t.1 P with
    | false => rfl
    | true =>
      rw [Bool.not_true, Bool.false_or]
      refine List.all_eq_true.mpr (fun K1 hK1 => ?_)
      have get : ∀ j, j < M → (lw_sp (lw_pts t.1) [t.2.2.2.2.1]).length ≤ c2 * M ∧ (((lw_sp (lw_pts t.1) [t.2.2.2.2.1]).drop (c2 * j)).take c2).all (lw_B1 t) = true := fun j hj => by
        have h2 := hq j hj
        unfold lw_q at h2
        rw [hA] at h2
        dsimp only at h2
        have h3 := List.all_eq_true.mp h2 t ht
        rw [h1, Bool.not_true, Bool.false_or, Bool.and_eq_true] at h3
        exact ⟨Nat.le_of_ble_eq_true h3.1, h3.2⟩
      obtain ⟨i, hi⟩ := List.getElem?_of_mem hK1
      have hlt := (List.getElem?_eq_some_iff.mp hi).1
      have hlen := (get 0 hM).1
      have hj : i / c2 < M := (Nat.div_lt_iff_lt_mul hc2).mpr (by rw [Nat.mul_comm]; omega)
      refine List.all_eq_true.mp (get (i / c2) hj).2 K1 (List.mem_of_getElem? (i := i % c2) ?_)
      rw [List.getElem?_take, if_pos (Nat.mod_lt i hc2), List.getElem?_drop, Nat.div_add_mod]
      exact hi
theorem lwg_f {Ps : List Nat} {a n : Nat} (h : lw_g2 Ps a n = true) (hf : ∀ P ∈ Ps, lw_f P = true) : lw_g a n = true := by
  cases hA : lw_A with
  | none => unfold lw_g2 at h; rw [hA] at h; cases h
  | some sts =>
    unfold lw_g2 at h
    unfold lw_g
    rw [hA] at h ⊢
    dsimp only at h ⊢
    refine List.all_eq_true.mpr (fun t ht => ?_)
    have h1 := List.all_eq_true.mp h t ht
    rw [Bool.or_eq_true] at h1
    rcases h1 with h1 | h1
    · obtain ⟨P, hP, hb⟩ := List.any_eq_true.mp h1
      have h2 := hf P hP
      unfold lw_f at h2
      rw [hA] at h2
      dsimp only at h2
      have h3 := List.all_eq_true.mp h2 t (List.mem_of_mem_drop (List.mem_of_mem_take ht))
      rw [hb, Bool.not_true, Bool.false_or] at h3
      exact h3
    · exact h1
