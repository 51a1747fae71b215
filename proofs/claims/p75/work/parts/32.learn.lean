/-! tests, fresh names, forms without names that are known (clean over p1's parts 03, 08) -/
theorem o_mem {α : Type} {x : Option α} {a : α} (h : x = some a) : a ∈ rj_o x := by rw [h]; exact List.mem_cons_self
theorem tst_ok {σ : Nat → Int} {K : rj_K} (hK : rj_sat σ K) (c : ClassFile.Cond) {x y : rj_F} (hx : rj_wf K.1.length x) (hy : rj_wf K.1.length y) (h : ri_h c (rj_ev σ x) (rj_ev σ y)) : ∃ K1, K1 ∈ rj_tst c K x y ∧ rj_sat σ K1 ∧ K1.1.length = K.1.length := by
  have exy := ev_sub σ x y
  have eyx := ev_sub σ y x
  have wxy := wf_sub hx hy
  have wyx := wf_sub hy hx
  have pxy := ev_plus σ (rj_sub x y) 1
  have pyx := ev_plus σ (rj_sub y x) 1
  cases c with
  | eq =>
    have h : rj_ev σ x = rj_ev σ y := h
    obtain ⟨K1, e1, k1, l1⟩ := le0_ok hK wxy (by omega)
    obtain ⟨K2, e2, k2, l2⟩ := le0_ok k1 (f := rj_sub y x) (by rw [l1]; exact wyx) (by omega)
    exact ⟨K2, List.mem_flatMap.mpr ⟨K1, o_mem e1, o_mem e2⟩, k2, l2.trans l1⟩
  | ne =>
    have h : rj_ev σ x ≠ rj_ev σ y := h
    by_cases hlt : rj_ev σ x < rj_ev σ y
    · obtain ⟨K1, e1, k1, l1⟩ := le0_ok hK (f := rj_plus (rj_sub x y) 1) wxy (by omega)
      exact ⟨K1, List.mem_append_left _ (o_mem e1), k1, l1⟩
    · obtain ⟨K1, e1, k1, l1⟩ := le0_ok hK (f := rj_plus (rj_sub y x) 1) wyx (by omega)
      exact ⟨K1, List.mem_append_right _ (o_mem e1), k1, l1⟩
  | lt =>
    have h : rj_ev σ x < rj_ev σ y := h
    obtain ⟨K1, e1, k1, l1⟩ := le0_ok hK (f := rj_plus (rj_sub x y) 1) wxy (by omega)
    exact ⟨K1, o_mem e1, k1, l1⟩
  | ge =>
    have h : rj_ev σ y ≤ rj_ev σ x := h
    obtain ⟨K1, e1, k1, l1⟩ := le0_ok hK wyx (by omega)
    exact ⟨K1, o_mem e1, k1, l1⟩
  | gt =>
    have h : rj_ev σ y < rj_ev σ x := h
    obtain ⟨K1, e1, k1, l1⟩ := le0_ok hK (f := rj_plus (rj_sub y x) 1) wyx (by omega)
    exact ⟨K1, o_mem e1, k1, l1⟩
  | le =>
    have h : rj_ev σ x ≤ rj_ev σ y := h
    obtain ⟨K1, e1, k1, l1⟩ := le0_ok hK wxy (by omega)
    exact ⟨K1, o_mem e1, k1, l1⟩
/-- a name of its own for a number between lo and hi -/
def rj_fr (K : rj_K) (lo hi : Int) : rj_K × rj_F := match decide (lo = hi) with
  | true => (K, rj_k lo)
  | false => ((K.1 ++ [(lo, hi)], K.2), rj_nm K.1.length)
abbrev rj_ag (N : Nat) (σ τ : Nat → Int) : Prop := ∀ n, n < N → τ n = σ n
theorem gh_ag {σ τ : Nat → Int} {N : Nat} (h : rj_ag N σ τ) {g : Nat × Bool × Int} (hg : g.1 < N) : rj_gh τ g ↔ rj_gh σ g := by
  unfold rj_gh
  rw [h g.1 hg]
theorem fr_ok {σ : Nat → Int} {K : rj_K} (hK : rj_sat σ K) {lo hi z : Int} (h1 : lo ≤ z) (h2 : z ≤ hi) : ∃ τ, rj_ag K.1.length σ τ ∧ rj_sat τ (rj_fr K lo hi).1 ∧ rj_wf (rj_fr K lo hi).1.1.length (rj_fr K lo hi).2 ∧ rj_ev τ (rj_fr K lo hi).2 = z ∧ K.1.length ≤ (rj_fr K lo hi).1.1.length := by
  unfold rj_fr
  split
  · rename_i hd
    rw [decide_eq_true_eq] at hd
    refine ⟨σ, fun _ _ => rfl, hK, wf_k, ?_, Nat.le_refl _⟩
    rw [ev_k]
    omega
  · have ha : rj_ag K.1.length σ (fun n => if n = K.1.length then z else σ n) := fun n hn => if_neg (Nat.ne_of_lt hn)
    have hlen : (K.1 ++ [(lo, hi)]).length = K.1.length + 1 := by rw [List.length_append]; rfl
    refine ⟨fun n => if n = K.1.length then z else σ n, ha, ⟨?_, ?_⟩, ?_, ?_, ?_⟩
    · intro n x hn
      by_cases hlt : n < K.1.length
      · rw [List.getElem?_append_left hlt] at hn
        have := hK.1 n x hn
        rw [← ha n hlt] at this
        exact this
      · have hle : K.1.length ≤ n := Nat.le_of_not_lt hlt
        rw [List.getElem?_append_right hle] at hn
        have hz : n - K.1.length = 0 := by
          cases hq : n - K.1.length with
          | zero => rfl
          | succ i => rw [hq] at hn; simp at hn
        rw [hz] at hn
        have hn : some (lo, hi) = some x := hn
        cases hn
        have : n = K.1.length := by omega
        subst this
        dsimp only
        rw [if_pos rfl]
        exact ⟨h1, h2⟩
    · intro c hc
      obtain ⟨w1, w2, w3⟩ := hK.2 c hc
      refine ⟨fun q hq => by show q.1 < (K.1 ++ [(lo, hi)]).length; rw [hlen]; exact Nat.lt_succ_of_lt (w1 q hq), fun g hg => by show g.1 < (K.1 ++ [(lo, hi)]).length; rw [hlen]; exact Nat.lt_succ_of_lt (w2 g hg), fun hg => ?_⟩
      rw [ev_ag ha w1]
      exact w3 (fun g hg2 => (gh_ag ha (w2 g hg2)).mp (hg g hg2))
    · show rj_wf (K.1 ++ [(lo, hi)]).length (rj_nm K.1.length)
      rw [hlen]
      exact wf_nm (Nat.lt_succ_self _)
    · rw [ev_nm]
      exact if_pos rfl
    · show K.1.length ≤ (K.1 ++ [(lo, hi)]).length
      rw [hlen]
      exact Nat.le_succ _
/-- names with one value alone are told by it -/
def rj_nrT (E : rj_E) : rj_T → rj_F
  | [] => (0, [])
  | q :: r => match decide ((rj_b E q.1).1 = (rj_b E q.1).2) with
    | true => ((rj_nrT E r).1 + q.2 * (rj_b E q.1).1, (rj_nrT E r).2)
    | false => ((rj_nrT E r).1, q :: (rj_nrT E r).2)
def rj_norm (E : rj_E) (f : rj_F) : rj_F := (f.1 + (rj_nrT E f.2).1, (rj_nrT E f.2).2)
theorem nrT_ok {σ : Nat → Int} {E : rj_E} (hE : rj_Eok σ E) : ∀ {a : rj_T}, (∀ q ∈ a, q.1 < E.length) → rj_ev σ (rj_nrT E a) = rj_sum σ a ∧ rj_wf E.length (rj_nrT E a)
  | [], _ => ⟨rfl, fun _ h => absurd h List.not_mem_nil⟩
  | q :: a, h => by
    obtain ⟨i1, i2⟩ := nrT_ok hE (a := a) (fun p hp => h p (List.mem_cons_of_mem _ hp))
    have hq := h q List.mem_cons_self
    have hb := b_ok hE hq
    have ie : (rj_nrT E a).1 + rj_sum σ (rj_nrT E a).2 = rj_sum σ a := i1
    unfold rj_nrT
    split
    · rename_i hd
      rw [decide_eq_true_eq] at hd
      refine ⟨?_, i2⟩
      have hv : (rj_b E q.1).1 = σ q.1 := by omega
      show (rj_nrT E a).1 + q.2 * (rj_b E q.1).1 + rj_sum σ (rj_nrT E a).2 = q.2 * σ q.1 + rj_sum σ a
      rw [hv]
      omega
    · refine ⟨?_, fun p hp => ?_⟩
      · show (rj_nrT E a).1 + (q.2 * σ q.1 + rj_sum σ (rj_nrT E a).2) = q.2 * σ q.1 + rj_sum σ a
        omega
      · rcases List.mem_cons.mp hp with h | h
        · rw [h]; exact hq
        · exact i2 p h
theorem norm_ok {σ : Nat → Int} {E : rj_E} (hE : rj_Eok σ E) {f : rj_F} (hf : rj_wf E.length f) : rj_ev σ (rj_norm E f) = rj_ev σ f ∧ rj_wf E.length (rj_norm E f) := by
  obtain ⟨h1, h2⟩ := nrT_ok hE hf
  refine ⟨?_, h2⟩
  have h1 : (rj_nrT E f.2).1 + rj_sum σ (rj_nrT E f.2).2 = rj_sum σ f.2 := h1
  show f.1 + (rj_nrT E f.2).1 + rj_sum σ (rj_nrT E f.2).2 = f.1 + rj_sum σ f.2
  omega
