/-! numbers as linear forms over names; what is known of the names (clean) -/
abbrev rj_T : Type := List (Nat × Int)
abbrev rj_F : Type := Int × rj_T
abbrev rj_E : Type := List (Int × Int)
abbrev rj_C : Type := List (rj_F × List (Nat × Bool × Int))
abbrev rj_K : Type := rj_E × rj_C
def rj_k (c : Int) : rj_F := (c, [])
def rj_nm (n : Nat) : rj_F := (0, [(n, 1)])
def rj_mg : Nat → rj_T → rj_T → rj_T
  | 0, a, b => a ++ b
  | _ + 1, [], b => b
  | _ + 1, a :: r, [] => a :: r
  | f + 1, (n, k) :: a, (m, l) :: b => match Nat.blt n m with
    | true => (n, k) :: rj_mg f a ((m, l) :: b)
    | false => match Nat.blt m n with
      | true => (m, l) :: rj_mg f ((n, k) :: a) b
      | false => match decide (k + l = 0) with
        | true => rj_mg f a b
        | false => (n, k + l) :: rj_mg f a b
def rj_sc (k : Int) (t : rj_T) : rj_T := t.map (fun q => (q.1, k * q.2))
def rj_scale (k : Int) (f : rj_F) : rj_F := match decide (k = 0) with
  | true => (0, [])
  | false => (k * f.1, rj_sc k f.2)
def rj_add (f g : rj_F) : rj_F := (f.1 + g.1, rj_mg (f.2.length + g.2.length) f.2 g.2)
def rj_sub (f g : rj_F) : rj_F := rj_add f (rj_scale (-1) g)
def rj_plus (f : rj_F) (c : Int) : rj_F := (f.1 + c, f.2)
def rj_sum (σ : Nat → Int) : rj_T → Int
  | [] => 0
  | (n, k) :: r => k * σ n + rj_sum σ r
def rj_ev (σ : Nat → Int) (f : rj_F) : Int := f.1 + rj_sum σ f.2
/-- all names of a form are below B -/
def rj_wf (B : Nat) (f : rj_F) : Prop := ∀ q ∈ f.2, q.1 < B
theorem sum_app (σ : Nat → Int) : ∀ (a b : rj_T), rj_sum σ (a ++ b) = rj_sum σ a + rj_sum σ b
  | [], b => by show rj_sum σ b = 0 + rj_sum σ b; omega
  | (n, k) :: a, b => by
    show k * σ n + rj_sum σ (a ++ b) = k * σ n + rj_sum σ a + rj_sum σ b
    rw [sum_app σ a b]
    omega
theorem sum_mg (σ : Nat → Int) : ∀ (f : Nat) (a b : rj_T), rj_sum σ (rj_mg f a b) = rj_sum σ a + rj_sum σ b
  | 0, a, b => sum_app σ a b
  | _ + 1, [], b => by show rj_sum σ b = 0 + rj_sum σ b; omega
  | _ + 1, a :: r, [] => by show rj_sum σ (a :: r) = rj_sum σ (a :: r) + 0; omega
  | f + 1, (n, k) :: a, (m, l) :: b => by
    unfold rj_mg
    split
    · show k * σ n + rj_sum σ (rj_mg f a ((m, l) :: b)) = _
      rw [sum_mg σ f a ((m, l) :: b)]
      show _ = (k * σ n + rj_sum σ a) + rj_sum σ ((m, l) :: b)
      omega
    · split
      · show l * σ m + rj_sum σ (rj_mg f ((n, k) :: a) b) = _
        rw [sum_mg σ f ((n, k) :: a) b]
        show _ = rj_sum σ ((n, k) :: a) + (l * σ m + rj_sum σ b)
        omega
      · rename_i h1 _ h2
        have hnm : n = m := by
          have a1 : ¬ n < m := fun h => by rw [Nat.blt_eq.mpr h] at h1; cases h1
          have a2 : ¬ m < n := fun h => by rw [Nat.blt_eq.mpr h] at h2; cases h2
          omega
        subst hnm
        have hd : (k + l) * σ n = k * σ n + l * σ n := Int.add_mul k l (σ n)
        split
        · rename_i h3
          rw [decide_eq_true_eq] at h3
          rw [sum_mg σ f a b]
          show _ = (k * σ n + rj_sum σ a) + (l * σ n + rj_sum σ b)
          rw [h3, Int.zero_mul] at hd
          omega
        · show (k + l) * σ n + rj_sum σ (rj_mg f a b) = (k * σ n + rj_sum σ a) + (l * σ n + rj_sum σ b)
          rw [sum_mg σ f a b]
          omega
theorem sum_sc (σ : Nat → Int) (c : Int) : ∀ (a : rj_T), rj_sum σ (rj_sc c a) = c * rj_sum σ a
  | [] => by show (0 : Int) = c * 0; omega
  | (n, k) :: a => by
    show c * k * σ n + rj_sum σ (rj_sc c a) = c * (k * σ n + rj_sum σ a)
    rw [sum_sc σ c a, Int.mul_add, Int.mul_assoc]
theorem ev_add (σ : Nat → Int) (f g : rj_F) : rj_ev σ (rj_add f g) = rj_ev σ f + rj_ev σ g := by
  show f.1 + g.1 + rj_sum σ (rj_mg (f.2.length + g.2.length) f.2 g.2) = f.1 + rj_sum σ f.2 + (g.1 + rj_sum σ g.2)
  rw [sum_mg]
  omega
theorem ev_scale (σ : Nat → Int) (c : Int) (f : rj_F) : rj_ev σ (rj_scale c f) = c * rj_ev σ f := by
  unfold rj_scale
  split
  · rename_i h
    rw [decide_eq_true_eq] at h
    rw [h, Int.zero_mul]
    rfl
  · show c * f.1 + rj_sum σ (rj_sc c f.2) = c * (f.1 + rj_sum σ f.2)
    rw [sum_sc, Int.mul_add]
theorem ev_sub (σ : Nat → Int) (f g : rj_F) : rj_ev σ (rj_sub f g) = rj_ev σ f - rj_ev σ g := by
  unfold rj_sub
  rw [ev_add, ev_scale]
  omega
theorem ev_plus (σ : Nat → Int) (f : rj_F) (c : Int) : rj_ev σ (rj_plus f c) = rj_ev σ f + c := by
  show f.1 + c + rj_sum σ f.2 = f.1 + rj_sum σ f.2 + c
  omega
theorem ev_k (σ : Nat → Int) (c : Int) : rj_ev σ (rj_k c) = c := by
  show c + 0 = c
  omega
theorem ev_nm (σ : Nat → Int) (n : Nat) : rj_ev σ (rj_nm n) = σ n := by
  show 0 + (1 * σ n + 0) = σ n
  omega
/-! names below B: kept by what forms are made of -/
theorem wf_mg {B : Nat} : ∀ (f : Nat) (a b : rj_T), (∀ q ∈ a, q.1 < B) → (∀ q ∈ b, q.1 < B) → ∀ q ∈ rj_mg f a b, q.1 < B
  | 0, a, b, ha, hb, q, hq => (List.mem_append.mp hq).elim (ha q) (hb q)
  | _ + 1, [], b, _, hb, q, hq => hb q hq
  | _ + 1, a :: r, [], ha, _, q, hq => ha q hq
  | f + 1, (n, k) :: a, (m, l) :: b, ha, hb, q, hq => by
    unfold rj_mg at hq
    split at hq
    · rcases List.mem_cons.mp hq with h | h
      · rw [h]; exact ha _ List.mem_cons_self
      · exact wf_mg f a _ (fun q hq => ha q (List.mem_cons_of_mem _ hq)) hb q h
    · split at hq
      · rcases List.mem_cons.mp hq with h | h
        · rw [h]; exact hb _ List.mem_cons_self
        · exact wf_mg f _ b ha (fun q hq => hb q (List.mem_cons_of_mem _ hq)) q h
      · have ih := wf_mg f a b (fun q hq => ha q (List.mem_cons_of_mem _ hq)) (fun q hq => hb q (List.mem_cons_of_mem _ hq))
        split at hq
        · exact ih q hq
        · rcases List.mem_cons.mp hq with h | h
          · rw [h]; exact ha (n, k) List.mem_cons_self
          · exact ih q h
theorem wf_sc {B : Nat} {c : Int} {a : rj_T} (h : ∀ q ∈ a, q.1 < B) : ∀ q ∈ rj_sc c a, q.1 < B := by
  intro q hq
  obtain ⟨p, hp, rfl⟩ := List.mem_map.mp hq
  exact h p hp
theorem wf_scale {B : Nat} {c : Int} {f : rj_F} (h : rj_wf B f) : rj_wf B (rj_scale c f) := by
  unfold rj_scale
  split
  · exact fun q hq => absurd hq List.not_mem_nil
  · exact wf_sc h
theorem wf_add {B : Nat} {f g : rj_F} (hf : rj_wf B f) (hg : rj_wf B g) : rj_wf B (rj_add f g) := wf_mg _ _ _ hf hg
theorem wf_sub {B : Nat} {f g : rj_F} (hf : rj_wf B f) (hg : rj_wf B g) : rj_wf B (rj_sub f g) := wf_add hf (wf_scale hg)
theorem wf_k {B : Nat} {c : Int} : rj_wf B (rj_k c) := fun _ h => absurd h List.not_mem_nil
theorem wf_nm {B n : Nat} (h : n < B) : rj_wf B (rj_nm n) := by
  intro q hq
  rw [List.mem_singleton.mp hq]
  exact h
/-- a value depends on the names below B alone -/
theorem sum_ag {σ τ : Nat → Int} {B : Nat} (h : ∀ n, n < B → τ n = σ n) : ∀ {a : rj_T}, (∀ q ∈ a, q.1 < B) → rj_sum τ a = rj_sum σ a
  | [], _ => rfl
  | (n, k) :: a, ha => by
    show k * τ n + rj_sum τ a = k * σ n + rj_sum σ a
    rw [h n (ha (n, k) List.mem_cons_self), sum_ag h (fun q hq => ha q (List.mem_cons_of_mem _ hq))]
theorem ev_ag {σ τ : Nat → Int} {B : Nat} (h : ∀ n, n < B → τ n = σ n) {f : rj_F} (hf : rj_wf B f) : rj_ev τ f = rj_ev σ f := by
  unfold rj_ev
  rw [sum_ag h hf]
/-! bounds -/
def rj_b (E : rj_E) (n : Nat) : Int × Int := E.getD n (0, 0)
def rj_tv (E : rj_E) (q : Nat × Int) : Int × Int := match decide (0 ≤ q.2) with
  | true => (q.2 * (rj_b E q.1).1, q.2 * (rj_b E q.1).2)
  | false => (q.2 * (rj_b E q.1).2, q.2 * (rj_b E q.1).1)
def rj_ivT (E : rj_E) : rj_T → Int × Int
  | [] => (0, 0)
  | q :: r => ((rj_tv E q).1 + (rj_ivT E r).1, (rj_tv E q).2 + (rj_ivT E r).2)
def rj_iv (E : rj_E) (f : rj_F) : Int × Int := (f.1 + (rj_ivT E f.2).1, f.1 + (rj_ivT E f.2).2)
def rj_Eok (σ : Nat → Int) (E : rj_E) : Prop := ∀ (n : Nat) (x : Int × Int), E[n]? = some x → x.1 ≤ σ n ∧ σ n ≤ x.2
theorem b_ok {σ : Nat → Int} {E : rj_E} (hE : rj_Eok σ E) {n : Nat} (h : n < E.length) : (rj_b E n).1 ≤ σ n ∧ σ n ≤ (rj_b E n).2 := by
  unfold rj_b
  rw [List.getD_eq_getElem?_getD, List.getElem?_eq_getElem h]
  exact hE n _ (List.getElem?_eq_getElem h)
theorem tv_ok {σ : Nat → Int} {E : rj_E} (hE : rj_Eok σ E) {q : Nat × Int} (h : q.1 < E.length) : (rj_tv E q).1 ≤ q.2 * σ q.1 ∧ q.2 * σ q.1 ≤ (rj_tv E q).2 := by
  obtain ⟨h1, h2⟩ := b_ok hE h
  unfold rj_tv
  split
  · rename_i hd
    rw [decide_eq_true_eq] at hd
    exact ⟨Int.mul_le_mul_of_nonneg_left h1 hd, Int.mul_le_mul_of_nonneg_left h2 hd⟩
  · rename_i hd
    rw [decide_eq_false_iff_not] at hd
    have hd : q.2 ≤ 0 := by omega
    exact ⟨Int.mul_le_mul_of_nonpos_left hd h2, Int.mul_le_mul_of_nonpos_left hd h1⟩
theorem ivT_ok {σ : Nat → Int} {E : rj_E} (hE : rj_Eok σ E) : ∀ {a : rj_T}, (∀ q ∈ a, q.1 < E.length) → (rj_ivT E a).1 ≤ rj_sum σ a ∧ rj_sum σ a ≤ (rj_ivT E a).2
  | [], _ => ⟨Int.le_refl _, Int.le_refl _⟩
  | q :: a, h => by
    have h1 := tv_ok hE (h q List.mem_cons_self)
    have h2 := ivT_ok hE (a := a) (fun p hp => h p (List.mem_cons_of_mem _ hp))
    show (rj_tv E q).1 + (rj_ivT E a).1 ≤ q.2 * σ q.1 + rj_sum σ a ∧ q.2 * σ q.1 + rj_sum σ a ≤ (rj_tv E q).2 + (rj_ivT E a).2
    omega
theorem iv_ok {σ : Nat → Int} {E : rj_E} (hE : rj_Eok σ E) {f : rj_F} (hf : rj_wf E.length f) : (rj_iv E f).1 ≤ rj_ev σ f ∧ rj_ev σ f ≤ (rj_iv E f).2 := by
  have h := ivT_ok hE hf
  show f.1 + (rj_ivT E f.2).1 ≤ f.1 + rj_sum σ f.2 ∧ f.1 + rj_sum σ f.2 ≤ f.1 + (rj_ivT E f.2).2
  omega
