/-! what is known: bounds and facts; what follows, what is learnt (clean) -/
def rj_gh (σ : Nat → Int) (g : Nat × Bool × Int) : Prop := match g.2.1 with
  | true => g.2.2 ≤ σ g.1
  | false => σ g.1 ≤ g.2.2
def rj_sat (σ : Nat → Int) (K : rj_K) : Prop := rj_Eok σ K.1 ∧ ∀ c ∈ K.2, rj_wf K.1.length c.1 ∧ (∀ g ∈ c.2, g.1 < K.1.length) ∧ ((∀ g ∈ c.2, rj_gh σ g) → rj_ev σ c.1 ≤ 0)
/-- a guard that the bounds show -/
def rj_av1 (E : rj_E) (g : Nat × Bool × Int) : Bool := match g.2.1 with
  | true => decide (g.2.2 ≤ (rj_b E g.1).1)
  | false => decide ((rj_b E g.1).2 ≤ g.2.2)
def rj_av (E : rj_E) (gs : List (Nat × Bool × Int)) : Bool := gs.all (rj_av1 E)
theorem av1_ok {σ : Nat → Int} {E : rj_E} (hE : rj_Eok σ E) {g : Nat × Bool × Int} (hg : g.1 < E.length) (h : rj_av1 E g = true) : rj_gh σ g := by
  obtain ⟨h1, h2⟩ := b_ok hE hg
  obtain ⟨n, b, v⟩ := g
  cases b with
  | true =>
    have h : v ≤ (rj_b E n).1 := of_decide_eq_true h
    show v ≤ σ n
    exact Int.le_trans h h1
  | false =>
    have h : (rj_b E n).2 ≤ v := of_decide_eq_true h
    show σ n ≤ v
    exact Int.le_trans h2 h
theorem av_ok {σ : Nat → Int} {E : rj_E} (hE : rj_Eok σ E) {gs : List (Nat × Bool × Int)} (hg : ∀ g ∈ gs, g.1 < E.length) (h : rj_av E gs = true) : ∀ g ∈ gs, rj_gh σ g := fun g hq => av1_ok hE (hg g hq) (List.all_eq_true.mp h g hq)
def rj_co : rj_T → Nat → Option Int
  | [], _ => none
  | (m, k) :: r, n => match Nat.beq m n with
    | true => some k
    | false => rj_co r n
def rj_last : rj_T → Option (Nat × Int)
  | [] => none
  | [q] => some q
  | _ :: r => rj_last r
def rj_bd (K : rj_K) (g : rj_F) : Bool := decide ((rj_iv K.1 g).2 ≤ 0)
def rj_try1 (K : rj_K) (cont : rj_F → Bool) (g : rj_F) (q : Nat × Int) (c : rj_F × List (Nat × Bool × Int)) : Bool := match rj_co c.1.2 q.1 with
  | none => false
  | some k => match decide (0 < k * q.2) && (decide (0 ≤ q.2 / k) && rj_av K.1 c.2) with
    | false => false
    | true => cont (rj_sub g (rj_scale (q.2 / k) c.1))
def rj_try (K : rj_K) (cont : rj_F → Bool) (g : rj_F) (q : Nat × Int) : Bool := K.2.any (rj_try1 K cont g q)
def rj_ent : Nat → rj_K → rj_F → Bool
  | 0, K, g => rj_bd K g
  | f + 1, K, g => rj_bd K g || ((match rj_last g.2 with
      | none => false
      | some q => rj_try K (rj_ent f K) g q) || g.2.any (rj_try K (rj_bd K) g))
theorem bd_ok {σ : Nat → Int} {K : rj_K} (hK : rj_sat σ K) {g : rj_F} (hg : rj_wf K.1.length g) (h : rj_bd K g = true) : rj_ev σ g ≤ 0 := by
  have h1 := (iv_ok hK.1 hg).2
  have h : (rj_iv K.1 g).2 ≤ 0 := of_decide_eq_true h
  omega
theorem try_ok {σ : Nat → Int} {K : rj_K} (hK : rj_sat σ K) {cont : rj_F → Bool} (hc : ∀ g, rj_wf K.1.length g → cont g = true → rj_ev σ g ≤ 0) {g : rj_F} {q : Nat × Int} (hg : rj_wf K.1.length g) (h : rj_try K cont g q = true) : rj_ev σ g ≤ 0 := by
  obtain ⟨c, hcm, h⟩ := List.any_eq_true.mp h
  obtain ⟨w1, w2, w3⟩ := hK.2 c hcm
  unfold rj_try1 at h
  split at h
  · cases h
  · rename_i k hk
    split at h
    · cases h
    · rename_i hd
      rw [Bool.and_eq_true, Bool.and_eq_true, decide_eq_true_eq, decide_eq_true_eq] at hd
      have hf := w3 (av_ok hK.1 w2 hd.2.2)
      have h1 := hc _ (wf_sub hg (wf_scale w1)) h
      rw [ev_sub, ev_scale] at h1
      have h2 : q.2 / k * rj_ev σ c.1 ≤ 0 := Int.mul_nonpos_of_nonneg_of_nonpos hd.2.1 hf
      omega
theorem ent_ok {σ : Nat → Int} {K : rj_K} (hK : rj_sat σ K) : ∀ (f : Nat) {g : rj_F}, rj_wf K.1.length g → rj_ent f K g = true → rj_ev σ g ≤ 0
  | 0, g, hg, h => bd_ok hK hg h
  | f + 1, g, hg, h => by
    unfold rj_ent at h
    rw [Bool.or_eq_true, Bool.or_eq_true] at h
    rcases h with h | h | h
    · exact bd_ok hK hg h
    · split at h
      · cases h
      · exact try_ok hK (fun g hg h => ent_ok hK f hg h) hg h
    · obtain ⟨q, -, h⟩ := List.any_eq_true.mp h
      exact try_ok hK (fun g hg h => bd_ok hK hg h) hg h
/-! a fact 'f is at most 0' narrows bounds -/
theorem ivT_less {σ : Nat → Int} {E : rj_E} (hE : rj_Eok σ E) : ∀ {a : rj_T} {q : Nat × Int}, (∀ p ∈ a, p.1 < E.length) → q ∈ a → (rj_ivT E a).1 - (rj_tv E q).1 ≤ rj_sum σ a - q.2 * σ q.1
  | [], _, _, h => absurd h List.not_mem_nil
  | p :: a, q, hw, h => by
    have hp := tv_ok hE (hw p List.mem_cons_self)
    have ha := ivT_ok hE (a := a) (fun p hp => hw p (List.mem_cons_of_mem _ hp))
    show (rj_tv E p).1 + (rj_ivT E a).1 - (rj_tv E q).1 ≤ p.2 * σ p.1 + rj_sum σ a - q.2 * σ q.1
    rcases List.mem_cons.mp h with h | h
    · subst h
      omega
    · have ih := ivT_less hE (fun p hp => hw p (List.mem_cons_of_mem _ hp)) h
      omega
def rj_clip (E : rj_E) (n : Nat) (l h : Int) : Option rj_E := match decide (l ≤ h) with
  | false => none
  | true => some (E.set n (l, h))
def rj_nar1 (E0 : rj_E) (lo : Int) (E : rj_E) (q : Nat × Int) : Option rj_E := match decide (0 < q.2) with
  | true => rj_clip E q.1 (rj_b E q.1).1 (min (rj_b E q.1).2 ((-(lo - (rj_tv E0 q).1)) / q.2))
  | false => match decide (q.2 < 0) with
    | true => rj_clip E q.1 (max (rj_b E q.1).1 (-((-(lo - (rj_tv E0 q).1)) / (-q.2)))) (rj_b E q.1).2
    | false => some E
theorem clip_ok {σ : Nat → Int} {E : rj_E} (hE : rj_Eok σ E) {n : Nat} {l h : Int} (h1 : l ≤ σ n) (h2 : σ n ≤ h) : ∃ E1, rj_clip E n l h = some E1 ∧ rj_Eok σ E1 ∧ E1.length = E.length := by
  unfold rj_clip
  rw [decide_eq_true (Int.le_trans h1 h2)]
  refine ⟨_, rfl, ?_, List.length_set⟩
  intro k x hk
  by_cases hkn : n = k
  · subst hkn
    rw [List.getElem?_set] at hk
    simp only [if_true] at hk
    split at hk
    · cases hk
      exact ⟨h1, h2⟩
    · cases hk
  · rw [List.getElem?_set_ne hkn] at hk
    exact hE k x hk
theorem nar1_ok {σ : Nat → Int} {E0 E : rj_E} (hE0 : rj_Eok σ E0) (hE : rj_Eok σ E) (hl : E.length = E0.length) {f : rj_F} (hf : rj_wf E0.length f) (h0 : rj_ev σ f ≤ 0) {q : Nat × Int} (hq : q ∈ f.2) : ∃ E1, rj_nar1 E0 (rj_iv E0 f).1 E q = some E1 ∧ rj_Eok σ E1 ∧ E1.length = E.length := by
  have hb := b_ok hE (by rw [hl]; exact hf q hq)
  have hless := ivT_less hE0 hf hq
  have hlo : (rj_iv E0 f).1 = f.1 + (rj_ivT E0 f.2).1 := rfl
  have hev : rj_ev σ f = f.1 + rj_sum σ f.2 := rfl
  have key : q.2 * σ q.1 ≤ -((rj_iv E0 f).1 - (rj_tv E0 q).1) := by omega
  unfold rj_nar1
  split
  · rename_i hd
    rw [decide_eq_true_eq] at hd
    refine clip_ok hE hb.1 (Int.le_min.mpr ⟨hb.2, ?_⟩)
    refine (Int.le_ediv_iff_mul_le hd).mpr ?_
    rw [Int.mul_comm]
    exact key
  · split
    · rename_i hd
      rw [decide_eq_true_eq] at hd
      refine clip_ok hE (Int.max_le.mpr ⟨hb.1, ?_⟩) hb.2
      have hn : 0 < -q.2 := by omega
      have h1 : -σ q.1 ≤ -((rj_iv E0 f).1 - (rj_tv E0 q).1) / -q.2 := by
        refine (Int.le_ediv_iff_mul_le hn).mpr ?_
        rw [Int.neg_mul_neg, Int.mul_comm]
        exact key
      omega
    · exact ⟨E, rfl, hE, rfl⟩
def rj_narL (E0 : rj_E) (lo : Int) : rj_T → rj_E → Option rj_E
  | [], E => some E
  | q :: r, E => match rj_nar1 E0 lo E q with
    | none => none
    | some E1 => rj_narL E0 lo r E1
theorem narL_ok {σ : Nat → Int} {E0 : rj_E} (hE0 : rj_Eok σ E0) {f : rj_F} (hf : rj_wf E0.length f) (h0 : rj_ev σ f ≤ 0) : ∀ (r : rj_T) (E : rj_E), (∀ q ∈ r, q ∈ f.2) → rj_Eok σ E → E.length = E0.length → ∃ E1, rj_narL E0 (rj_iv E0 f).1 r E = some E1 ∧ rj_Eok σ E1 ∧ E1.length = E0.length
  | [], E, _, hE, hl => ⟨E, rfl, hE, hl⟩
  | q :: r, E, hr, hE, hl => by
    obtain ⟨E1, e1, k1, l1⟩ := nar1_ok hE0 hE hl hf h0 (hr q List.mem_cons_self)
    obtain ⟨E2, e2, k2, l2⟩ := narL_ok hE0 hf h0 r E1 (fun q hq => hr q (List.mem_cons_of_mem _ hq)) k1 (l1.trans hl)
    exact ⟨E2, by unfold rj_narL; rw [e1]; exact e2, k2, l2⟩
def rj_nar (E : rj_E) (f : rj_F) : Option rj_E := rj_narL E (rj_iv E f).1 f.2 E
theorem nar_ok {σ : Nat → Int} {E : rj_E} (hE : rj_Eok σ E) {f : rj_F} (hf : rj_wf E.length f) (h0 : rj_ev σ f ≤ 0) : ∃ E1, rj_nar E f = some E1 ∧ rj_Eok σ E1 ∧ E1.length = E.length := narL_ok hE hf h0 f.2 E (fun _ h => h) hE rfl
/-- all facts whose guards the bounds show, once -/
def rj_pass : rj_C → rj_E → Option rj_E
  | [], E => some E
  | c :: r, E => match rj_av E c.2 with
    | false => rj_pass r E
    | true => match rj_nar E c.1 with
      | none => none
      | some E1 => rj_pass r E1
theorem pass_ok {σ : Nat → Int} {N : Nat} : ∀ (C : rj_C) (E : rj_E), E.length = N → rj_Eok σ E → (∀ c ∈ C, rj_wf N c.1 ∧ (∀ g ∈ c.2, g.1 < N) ∧ ((∀ g ∈ c.2, rj_gh σ g) → rj_ev σ c.1 ≤ 0)) → ∃ E1, rj_pass C E = some E1 ∧ rj_Eok σ E1 ∧ E1.length = N
  | [], E, hl, hE, _ => ⟨E, rfl, hE, hl⟩
  | c :: r, E, hl, hE, hC => by
    have hr := fun d hd => hC d (List.mem_cons_of_mem _ hd)
    obtain ⟨w1, w2, w3⟩ := hC c List.mem_cons_self
    unfold rj_pass
    cases ha : rj_av E c.2 with
    | false => exact pass_ok r E hl hE hr
    | true =>
      obtain ⟨E1, e1, k1, l1⟩ := nar_ok hE (f := c.1) (by rw [hl]; exact w1) (w3 (av_ok hE (by rw [hl]; exact w2) ha))
      dsimp only
      rw [e1]
      exact pass_ok r E1 (l1.trans hl) k1 hr
def rj_prop (K : rj_K) : Option rj_K := match rj_pass K.2 K.1 with
  | none => none
  | some E1 => match rj_pass K.2 E1 with
    | none => none
    | some E2 => some (E2, K.2)
theorem prop_ok {σ : Nat → Int} {K : rj_K} (hK : rj_sat σ K) : ∃ K1, rj_prop K = some K1 ∧ rj_sat σ K1 ∧ K1.1.length = K.1.length := by
  obtain ⟨E1, e1, k1, l1⟩ := pass_ok K.2 K.1 rfl hK.1 hK.2
  obtain ⟨E2, e2, k2, l2⟩ := pass_ok K.2 E1 l1 k1 hK.2
  refine ⟨(E2, K.2), ?_, ⟨k2, ?_⟩, l2⟩
  · unfold rj_prop
    rw [e1]
    dsimp only
    rw [e2]
  · show ∀ c ∈ K.2, rj_wf E2.length c.1 ∧ _
    rw [l2]
    exact hK.2
/-- one pass over the facts that share a name with T -/
def rj_hit (T : rj_T) (c : rj_F × List (Nat × Bool × Int)) : Bool := c.1.2.any (fun q => T.any (fun t => Nat.beq t.1 q.1)) || c.2.any (fun g => T.any (fun t => Nat.beq t.1 g.1))
def rj_passT (T : rj_T) : rj_C → rj_E → Option rj_E
  | [], E => some E
  | c :: r, E => match rj_hit T c && rj_av E c.2 with
    | false => rj_passT T r E
    | true => match rj_nar E c.1 with
      | none => none
      | some E1 => rj_passT T r E1
theorem passT_ok {σ : Nat → Int} {N : Nat} {T : rj_T} : ∀ (C : rj_C) (E : rj_E), E.length = N → rj_Eok σ E → (∀ c ∈ C, rj_wf N c.1 ∧ (∀ g ∈ c.2, g.1 < N) ∧ ((∀ g ∈ c.2, rj_gh σ g) → rj_ev σ c.1 ≤ 0)) → ∃ E1, rj_passT T C E = some E1 ∧ rj_Eok σ E1 ∧ E1.length = N
  | [], E, hl, hE, _ => ⟨E, rfl, hE, hl⟩
  | c :: r, E, hl, hE, hC => by
    have hr := fun d hd => hC d (List.mem_cons_of_mem _ hd)
    obtain ⟨w1, w2, w3⟩ := hC c List.mem_cons_self
    unfold rj_passT
    cases ha : rj_hit T c && rj_av E c.2 with
    | false => exact passT_ok r E hl hE hr
    | true =>
      rw [Bool.and_eq_true] at ha
      obtain ⟨E1, e1, k1, l1⟩ := nar_ok hE (f := c.1) (by rw [hl]; exact w1) (w3 (av_ok hE (by rw [hl]; exact w2) ha.2))
      dsimp only
      rw [e1]
      exact passT_ok r E1 (l1.trans hl) k1 hr
def rj_prT (T : rj_T) (K : rj_K) : Option rj_K := match rj_passT T K.2 K.1 with
  | none => none
  | some E1 => some (E1, K.2)
theorem prT_ok {σ : Nat → Int} {K : rj_K} (T : rj_T) (hK : rj_sat σ K) : ∃ K1, rj_prT T K = some K1 ∧ rj_sat σ K1 ∧ K1.1.length = K.1.length := by
  obtain ⟨E1, e1, k1, l1⟩ := passT_ok (T := T) K.2 K.1 rfl hK.1 hK.2
  refine ⟨(E1, K.2), ?_, ⟨k1, ?_⟩, l1⟩
  · unfold rj_prT
    rw [e1]
  · show ∀ c ∈ K.2, rj_wf E1.length c.1 ∧ _
    rw [l1]
    exact hK.2
def rj_prN : Nat → rj_K → Option rj_K
  | 0, K => some K
  | n + 1, K => match rj_pass K.2 K.1 with
    | none => none
    | some E1 => rj_prN n (E1, K.2)
theorem prN_ok {σ : Nat → Int} : ∀ (n : Nat) {K : rj_K}, rj_sat σ K → ∃ K1, rj_prN n K = some K1 ∧ rj_sat σ K1 ∧ K1.1.length = K.1.length
  | 0, K, hK => ⟨K, rfl, hK, rfl⟩
  | n + 1, K, hK => by
    obtain ⟨E1, e1, k1, l1⟩ := pass_ok K.2 K.1 rfl hK.1 hK.2
    have hK1 : rj_sat σ (E1, K.2) := ⟨k1, by show ∀ c ∈ K.2, rj_wf E1.length c.1 ∧ _; rw [l1]; exact hK.2⟩
    obtain ⟨K2, e2, k2, l2⟩ := prN_ok n hK1
    refine ⟨K2, ?_, k2, l2.trans l1⟩
    unfold rj_prN
    rw [e1]
    exact e2
/-- 'f is at most 0' is learnt; none: it can't be -/
def rj_le0 (K : rj_K) (f : rj_F) : Option rj_K := match f.2 with
  | [] => (match decide (f.1 ≤ 0) with
    | true => some K
    | false => none)
  | [_] => (match rj_nar K.1 f with
    | none => none
    | some E1 => rj_prT f.2 (E1, K.2))
  | _ => (match rj_nar K.1 f with
    | none => none
    | some E1 => match decide ((rj_iv E1 f).2 ≤ 0) with
      | true => rj_prT f.2 (E1, K.2)
      | false => match rj_ent 1 (E1, K.2) (rj_plus (rj_scale (-1) f) 1) with
        | true => none
        | false => rj_prT f.2 (E1, (f, []) :: K.2))
theorem le0_ok {σ : Nat → Int} {K : rj_K} (hK : rj_sat σ K) {f : rj_F} (hf : rj_wf K.1.length f) (h0 : rj_ev σ f ≤ 0) : ∃ K1, rj_le0 K f = some K1 ∧ rj_sat σ K1 ∧ K1.1.length = K.1.length := by
  obtain ⟨E1, e1, k1, l1⟩ := nar_ok hK.1 hf h0
  have hK1 : rj_sat σ (E1, K.2) := ⟨k1, by show ∀ c ∈ K.2, rj_wf E1.length c.1 ∧ _; rw [l1]; exact hK.2⟩
  have hp := prT_ok f.2 hK1
  unfold rj_le0
  split
  · rename_i hn
    have : rj_ev σ f = f.1 := by
      unfold rj_ev
      rw [hn]
      show f.1 + 0 = f.1
      omega
    rw [this] at h0
    rw [decide_eq_true h0]
    exact ⟨K, rfl, hK, rfl⟩
  · rw [e1]
    obtain ⟨K2, e2, k2, l2⟩ := hp
    exact ⟨K2, e2, k2, l2.trans l1⟩
  · rw [e1]
    dsimp only
    split
    · obtain ⟨K2, e2, k2, l2⟩ := hp
      exact ⟨K2, e2, k2, l2.trans l1⟩
    · split
      · rename_i he
        have hw : rj_wf E1.length (rj_plus (rj_scale (-1) f) 1) := by rw [l1]; exact wf_scale hf
        have := ent_ok hK1 1 hw he
        rw [ev_plus, ev_scale] at this
        omega
      · have hK2 : rj_sat σ (E1, (f, []) :: K.2) := ⟨k1, List.forall_mem_cons.mpr ⟨⟨by rw [l1]; exact hf, fun _ h => absurd h List.not_mem_nil, fun _ => h0⟩, hK1.2⟩⟩
        obtain ⟨K2, e2, k2, l2⟩ := prT_ok f.2 hK2
        exact ⟨K2, e2, k2, l2.trans l1⟩
def rj_o {α : Type} (o : Option α) : List α := match o with
  | none => []
  | some a => [a]
/-- all that may be known where x c y holds -/
def rj_tst (c : ClassFile.Cond) (K : rj_K) (x y : rj_F) : List rj_K := match c with
  | .le => rj_o (rj_le0 K (rj_sub x y))
  | .ge => rj_o (rj_le0 K (rj_sub y x))
  | .lt => rj_o (rj_le0 K (rj_plus (rj_sub x y) 1))
  | .gt => rj_o (rj_le0 K (rj_plus (rj_sub y x) 1))
  | .eq => (rj_o (rj_le0 K (rj_sub x y))).flatMap (fun K1 => rj_o (rj_le0 K1 (rj_sub y x)))
  | .ne => rj_o (rj_le0 K (rj_plus (rj_sub x y) 1)) ++ rj_o (rj_le0 K (rj_plus (rj_sub y x) 1))
