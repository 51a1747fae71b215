/-! numbers told by their bits -/
def rj_bv (σ : Nat → Int) : List rj_F → Int
  | [] => 0
  | b :: r => rj_ev σ b + 2 * rj_bv σ r
def rj_cb : Nat → Int → List rj_F
  | 0, _ => []
  | k + 1, c => rj_k (c % 2) :: rj_cb k (c / 2)
def rj_pos (k : Int) : Option (Nat × Int) := match decide (k = 1) with
  | true => some (0, 1)
  | false => match decide (k = 2) with
    | true => some (1, 2)
    | false => match decide (k = 4) with
      | true => some (2, 4)
      | false => none
def rj_insB : List rj_F → Nat → Nat → Option (List rj_F)
  | [], _, _ => none
  | b :: r, 0, n => match decide (b.1 = 0) && b.2.isEmpty with
    | true => some (rj_nm n :: r)
    | false => none
  | b :: r, i + 1, n => match rj_insB r i n with
    | none => none
    | some r2 => some (b :: r2)
def rj_insT (E : rj_E) : rj_T → List rj_F → Option (List rj_F)
  | [], bs => some bs
  | (n, k) :: r, bs => match rj_pos k with
    | none => none
    | some (i, _) => match decide (0 ≤ (rj_b E n).1) && decide ((rj_b E n).2 ≤ 1) with
      | false => none
      | true => match rj_insB bs i n with
        | none => none
        | some b2 => rj_insT E r b2
def rj_bits (E : rj_E) (f : rj_F) : Option (List rj_F) := match decide (0 ≤ f.1) && decide (f.1 < 8) with
  | false => none
  | true => rj_insT E f.2 (rj_cb 3 f.1)
def rj_ub : List rj_F → rj_F
  | [] => rj_k 0
  | b :: r => rj_add b (rj_scale 2 (rj_ub r))
/-- each is a bit -/
def rj_bok (σ : Nat → Int) (N : Nat) (bs : List rj_F) : Prop := ∀ b ∈ bs, rj_wf N b ∧ 0 ≤ rj_ev σ b ∧ rj_ev σ b ≤ 1
theorem ub_ok {σ : Nat → Int} {N : Nat} : ∀ {bs : List rj_F}, rj_bok σ N bs → rj_ev σ (rj_ub bs) = rj_bv σ bs ∧ rj_wf N (rj_ub bs)
  | [], _ => ⟨ev_k σ 0, wf_k⟩
  | b :: r, h => by
    obtain ⟨i1, i2⟩ := ub_ok (bs := r) (fun c hc => h c (List.mem_cons_of_mem _ hc))
    refine ⟨?_, wf_add (h b List.mem_cons_self).1 (wf_scale i2)⟩
    show rj_ev σ (rj_add b (rj_scale 2 (rj_ub r))) = rj_ev σ b + 2 * rj_bv σ r
    rw [ev_add, ev_scale, i1]
theorem cb_ok {σ : Nat → Int} {N : Nat} : ∀ (k : Nat) (c : Int), 0 ≤ c → c < 2 ^ k → rj_bv σ (rj_cb k c) = c ∧ rj_bok σ N (rj_cb k c)
  | 0, c, h1, h2 => by
    have h2 : c < 1 := h2
    refine ⟨?_, fun b hb => absurd hb List.not_mem_nil⟩
    show (0 : Int) = c
    omega
  | k + 1, c, h1, h2 => by
    have h3 : (2 : Int) ^ (k + 1) = 2 ^ k * 2 := Int.pow_succ 2 k
    obtain ⟨i1, i2⟩ := cb_ok (σ := σ) (N := N) k (c / 2) (by omega) (by omega)
    refine ⟨?_, List.forall_mem_cons.mpr ⟨⟨wf_k, ?_, ?_⟩, i2⟩⟩
    · show rj_ev σ (rj_k (c % 2)) + 2 * rj_bv σ (rj_cb k (c / 2)) = c
      rw [ev_k, i1]
      omega
    · rw [ev_k]; omega
    · rw [ev_k]; omega
theorem insB_ok {σ : Nat → Int} {N n : Nat} (hn : n < N) (h1 : 0 ≤ σ n) (h2 : σ n ≤ 1) : ∀ {bs b2 : List rj_F} {i : Nat}, rj_insB bs i n = some b2 → rj_bok σ N bs → rj_bv σ b2 = rj_bv σ bs + 2 ^ i * σ n ∧ rj_bok σ N b2
  | [], _, _, h, _ => by cases h
  | b :: r, b2, 0, h, hb => by
    unfold rj_insB at h
    split at h
    · rename_i hd
      cases h
      rw [Bool.and_eq_true, decide_eq_true_eq] at hd
      have he : rj_ev σ b = 0 := by
        have h3 : b.2 = [] := List.isEmpty_iff.mp hd.2
        unfold rj_ev
        rw [hd.1, h3]
        rfl
      refine ⟨?_, List.forall_mem_cons.mpr ⟨⟨wf_nm hn, by rw [ev_nm]; exact h1, by rw [ev_nm]; exact h2⟩, fun c hc => hb c (List.mem_cons_of_mem _ hc)⟩⟩
      show rj_ev σ (rj_nm n) + 2 * rj_bv σ r = rj_ev σ b + 2 * rj_bv σ r + 2 ^ 0 * σ n
      rw [ev_nm, he]
      omega
    · cases h
  | b :: r, b2, i + 1, h, hb => by
    unfold rj_insB at h
    split at h
    · cases h
    · rename_i r2 hr
      cases h
      obtain ⟨i1, i2⟩ := insB_ok hn h1 h2 hr (fun c hc => hb c (List.mem_cons_of_mem _ hc))
      refine ⟨?_, List.forall_mem_cons.mpr ⟨hb b List.mem_cons_self, i2⟩⟩
      have h3 : (2 : Int) ^ (i + 1) = 2 ^ i * 2 := Int.pow_succ 2 i
      show rj_ev σ b + 2 * rj_bv σ r2 = rj_ev σ b + 2 * rj_bv σ r + 2 ^ (i + 1) * σ n
      rw [i1, h3, Int.mul_add, Int.mul_right_comm, ← Int.mul_assoc, Int.mul_comm 2 (2 ^ i), Int.mul_right_comm]
      omega
theorem pos_ok {k m : Int} {i : Nat} (h : rj_pos k = some (i, m)) : (2 : Int) ^ i = k := by
  unfold rj_pos at h
  split at h
  · rename_i hd; cases h; rw [decide_eq_true_eq] at hd; rw [hd]; rfl
  · split at h
    · rename_i hd; cases h; rw [decide_eq_true_eq] at hd; rw [hd]; rfl
    · split at h
      · rename_i hd; cases h; rw [decide_eq_true_eq] at hd; rw [hd]; rfl
      · cases h
theorem insT_ok {σ : Nat → Int} {E : rj_E} (hE : rj_Eok σ E) : ∀ {t : rj_T} {bs b2 : List rj_F}, rj_insT E t bs = some b2 → (∀ q ∈ t, q.1 < E.length) → rj_bok σ E.length bs → rj_bv σ b2 = rj_bv σ bs + rj_sum σ t ∧ rj_bok σ E.length b2
  | [], bs, b2, h, _, hb => by
    cases h
    refine ⟨?_, hb⟩
    show rj_bv σ bs = rj_bv σ bs + 0
    omega
  | (n, k) :: t, bs, b2, h, hw, hb => by
    unfold rj_insT at h
    split at h
    · cases h
    · rename_i i m hp
      split at h
      · cases h
      · rename_i hd
        split at h
        · cases h
        · rename_i b3 hi
          rw [Bool.and_eq_true, decide_eq_true_eq, decide_eq_true_eq] at hd
          have hn : n < E.length := hw (n, k) List.mem_cons_self
          have hbn := b_ok hE hn
          obtain ⟨i1, i2⟩ := insB_ok (n := n) hn (by omega) (by omega) hi hb
          obtain ⟨j1, j2⟩ := insT_ok hE h (fun q hq => hw q (List.mem_cons_of_mem _ hq)) i2
          refine ⟨?_, j2⟩
          rw [pos_ok hp] at i1
          show rj_bv σ b2 = rj_bv σ bs + (k * σ n + rj_sum σ t)
          omega
theorem bits_ok {σ : Nat → Int} {E : rj_E} (hE : rj_Eok σ E) {f : rj_F} {bs : List rj_F} (hf : rj_wf E.length f) (h : rj_bits E f = some bs) : rj_bv σ bs = rj_ev σ f ∧ rj_bok σ E.length bs := by
  unfold rj_bits at h
  split at h
  · cases h
  · rename_i hd
    rw [Bool.and_eq_true, decide_eq_true_eq, decide_eq_true_eq] at hd
    obtain ⟨c1, c2⟩ := cb_ok (σ := σ) (N := E.length) 3 f.1 hd.1 hd.2
    obtain ⟨i1, i2⟩ := insT_ok hE h hf c2
    refine ⟨?_, i2⟩
    rw [i1, c1]
    rfl
/-! and, or, shift, by bits -/
def rj_nv : List Nat → Nat
  | [] => 0
  | b :: r => b + 2 * rj_nv r
theorem nat_ext {x y : Nat} (h0 : x % 2 = y % 2) (h1 : x / 2 = y / 2) : x = y := by omega
theorem and_half (x y : Nat) : (x &&& y) / 2 = (x / 2) &&& (y / 2) := by
  apply Nat.eq_of_testBit_eq
  intro i
  rw [Nat.testBit_and, ← Nat.testBit_succ, ← Nat.testBit_succ, ← Nat.testBit_succ, Nat.testBit_and]
theorem or_half (x y : Nat) : (x ||| y) / 2 = (x / 2) ||| (y / 2) := by
  apply Nat.eq_of_testBit_eq
  intro i
  rw [Nat.testBit_or, ← Nat.testBit_succ, ← Nat.testBit_succ, ← Nat.testBit_succ, Nat.testBit_or]
theorem and_low (x y : Nat) : (x &&& y) % 2 = (x % 2) * (y % 2) := by
  have h : (x &&& y) % 2 = 1 ↔ x % 2 = 1 ∧ y % 2 = 1 := Nat.and_mod_two_eq_one
  rcases Nat.mod_two_eq_zero_or_one x with hx | hx <;> rcases Nat.mod_two_eq_zero_or_one y with hy | hy <;> rw [hx, hy] <;> omega
theorem or_low (x y : Nat) : (x ||| y) % 2 = max (x % 2) (y % 2) := by
  have h : (x ||| y) % 2 = 1 ↔ x % 2 = 1 ∨ y % 2 = 1 := Nat.or_mod_two_eq_one
  rcases Nat.mod_two_eq_zero_or_one x with hx | hx <;> rcases Nat.mod_two_eq_zero_or_one y with hy | hy <;> rw [hx, hy] <;> omega
def rj_bm (m : Int) : List rj_F → List rj_F
  | [] => []
  | b :: r => (match decide (m % 2 = 1) with
    | true => b
    | false => rj_k 0) :: rj_bm (m / 2) r
def rj_bo (m : Int) : List rj_F → List rj_F
  | [] => []
  | b :: r => (match decide (m % 2 = 1) with
    | true => rj_k 1
    | false => b) :: rj_bo (m / 2) r
theorem bv_nn {σ : Nat → Int} {N : Nat} : ∀ {bs : List rj_F}, rj_bok σ N bs → 0 ≤ rj_bv σ bs
  | [], _ => Int.le_refl _
  | b :: r, h => by
    have h1 := h b List.mem_cons_self
    have h2 := bv_nn (bs := r) (fun c hc => h c (List.mem_cons_of_mem _ hc))
    show 0 ≤ rj_ev σ b + 2 * rj_bv σ r
    omega
theorem bm_ok {σ : Nat → Int} {N : Nat} : ∀ {bs : List rj_F} {m : Nat}, rj_bok σ N bs → rj_bv σ (rj_bm (m : Int) bs) = (((rj_bv σ bs).toNat &&& m : Nat) : Int) ∧ rj_bok σ N (rj_bm (m : Int) bs)
  | [], m, _ => by
    refine ⟨?_, fun b hb => absurd hb List.not_mem_nil⟩
    show (0 : Int) = (((0 : Int).toNat &&& m : Nat) : Int)
    simp
  | b :: r, m, h => by
    have h1 := h b List.mem_cons_self
    have hr := fun c hc => h c (List.mem_cons_of_mem b hc)
    have h2 := bv_nn (bs := r) hr
    obtain ⟨i1, i2⟩ := bm_ok (bs := r) (m := m / 2) hr
    have hm : ((m : Int) / 2) = ((m / 2 : Nat) : Int) := rfl
    have e1 := and_half (rj_bv σ (b :: r)).toNat m
    have e2 := and_low (rj_bv σ (b :: r)).toNat m
    have hv : rj_bv σ (b :: r) = rj_ev σ b + 2 * rj_bv σ r := rfl
    have e3 : (rj_bv σ (b :: r)).toNat / 2 = (rj_bv σ r).toNat := by rw [hv]; omega
    have e4 : (rj_bv σ (b :: r)).toNat % 2 = (rj_ev σ b).toNat := by rw [hv]; omega
    rw [e3] at e1
    rw [e4] at e2
    refine ⟨?_, List.forall_mem_cons.mpr ⟨?_, by rw [hm]; exact i2⟩⟩
    · show rj_ev σ (match decide ((m : Int) % 2 = 1) with | true => b | false => rj_k 0) + 2 * rj_bv σ (rj_bm ((m : Int) / 2) r) = _
      rw [hm, i1]
      split
      · rename_i hd
        rw [decide_eq_true_eq] at hd
        have hd : m % 2 = 1 := by omega
        rw [hd, Nat.mul_one] at e2
        omega
      · rename_i hd
        rw [decide_eq_false_iff_not] at hd
        have hd : m % 2 = 0 := by omega
        rw [hd, Nat.mul_zero] at e2
        rw [ev_k]
        omega
    · split
      · exact h1
      · exact ⟨wf_k, by rw [ev_k]; decide, by rw [ev_k]; decide⟩
