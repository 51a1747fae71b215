/-! v2: loops: the pieces -/
abbrev rj_Lc : Type := List (Nat × Option (Int × Int × Int))
abbrev rj_Ck : Type := Option (Nat × (Nat × Int) × Nat)
/-- head and body; objects in locals; locals kept; what is written; facts; measure; a row that is checked -/
abbrev rj_Lp : Type := (Nat × Nat × Nat) × List (Nat × Nat) × rj_Lc × rj_Wr × List rj_Ft × ((Nat × Nat × Nat) × Bool) × rj_Ck
def rj_pick : rj_Lc → List (Nat × rj_V) → Option (List (Nat × rj_V))
  | [], _ => some []
  | (j, _) :: r, lo => match ri_key lo j with
    | none => none
    | some v => match rj_pick r lo with
      | none => none
      | some t => some ((j, v) :: t)
theorem pick_ok {z : rj_Z} {N : Nat} {σ : Nat → Int} {lo : List (Nat × rj_V)} {lv : List (Nat × Value)} (h : rj_lo z N σ lo lv) : ∀ {r : rj_Lc} {kl : List (Nat × rj_V)}, rj_pick r lo = some kl → ∃ lk, rj_lo z N σ kl lk ∧ ∀ p ∈ lk, p ∈ lv
  | [], kl, hk => by
    cases hk
    exact ⟨[], trivial, fun _ h => absurd h List.not_mem_nil⟩
  | (j, o) :: r, kl, hk => by
    unfold rj_pick at hk
    split at hk
    · cases hk
    · rename_i v hv
      split at hk
      · cases hk
      · rename_i t ht
        cases hk
        obtain ⟨lk, h1, h2⟩ := pick_ok h ht
        obtain ⟨x, g1, g2⟩ := rk_3 h hv
        refine ⟨(j, x) :: lk, ⟨⟨rfl, g2⟩, h1⟩, fun p hp => ?_⟩
        rcases List.mem_cons.mp hp with rfl | hp
        · exact rk_mem g1
        · exact h2 p hp
def rj_l1 (z : rj_Z) (N : Nat) (σ : Nat → Int) (o : Option (Int × Int × Int)) (v : rj_V) (x : Value) : Prop := match o with
  | none => rj_g z N σ v x
  | some (a, b, d) => match v with
    | .inl _ => ∃ (k : Int32) (t : Int), x = .int k ∧ k.toInt = d * t ∧ a ≤ t ∧ t ≤ b
    | .inr (.inl _) => ∃ (k : Int64) (t : Int), x = .long k ∧ k.toInt = d * t ∧ a ≤ t ∧ t ≤ b
    | _ => False
def rj_ls (z : rj_Z) (N : Nat) (σ : Nat → Int) : rj_Lc → List (Nat × rj_V) → List (Nat × Value) → Prop
  | [], [], [] => True
  | (j, o) :: r, (i, v) :: kl, (n, x) :: lk => n = j ∧ i = j ∧ rj_l1 z N σ o v x ∧ rj_ls z N σ r kl lk
  | _, _, _ => False
theorem l1_ag {z : rj_Z} {N M : Nat} {σ τ : Nat → Int} {o : Option (Int × Int × Int)} {v : rj_V} {x : Value} (hNM : N ≤ M) (ha : rj_ag N σ τ) (h : rj_l1 z N σ o v x) : rj_l1 z M τ o v x := by
  match o, h with
  | none, h => exact jg_ag hNM ha h
  | some (a, b, d), h =>
    match v, h with
    | .inl _, h => exact h
    | .inr (.inl _), h => exact h
theorem ls_ag {z : rj_Z} {N M : Nat} {σ τ : Nat → Int} (hNM : N ≤ M) (ha : rj_ag N σ τ) : ∀ {r : rj_Lc} {kl : List (Nat × rj_V)} {lk : List (Nat × Value)}, rj_ls z N σ r kl lk → rj_ls z M τ r kl lk
  | [], [], [], _ => trivial
  | (_, _) :: _, (_, _) :: _, (_, _) :: _, h => ⟨h.1, h.2.1, l1_ag hNM ha h.2.2.1, ls_ag hNM ha h.2.2.2⟩
  | [], _ :: _, _, h => h.elim
  | [], [], _ :: _, h => h.elim
  | _ :: _, [], _, h => h.elim
  | _ :: _, _ :: _, [], h => h.elim
def rj_lk (v : rj_V) (f : rj_F) : rj_V := match v with
  | .inl _ => .inl f
  | .inr (.inl _) => .inr (.inl f)
  | v => v
def rj_gen : rj_K → rj_Lc → List (Nat × rj_V) → rj_K × List (Nat × rj_V)
  | K, (_, none) :: r, p :: kl => match rj_gen K r kl with
    | (K1, t) => (K1, p :: t)
  | K, (_, some (a, b, d)) :: r, (j, v) :: kl => match rj_fr K a b with
    | (K0, f) => match rj_gen K0 r kl with
      | (K1, t) => (K1, (j, rj_lk v (rj_scale d f)) :: t)
  | K, [], _ => (K, [])
  | K, _, [] => (K, [])
theorem gen_ok {z : rj_Z} : ∀ {r : rj_Lc} {kl : List (Nat × rj_V)} {lk : List (Nat × Value)} {K K1 : rj_K} {σ : Nat → Int} {lg : List (Nat × rj_V)}, rj_sat σ K → rj_ls z K.1.length σ r kl lk → rj_gen K r kl = (K1, lg) → ∃ τ, rj_up K K1 σ τ ∧ rj_lo z K1.1.length τ lg lk
  | [], [], [], K, K1, σ, lg, hK, _, h => by
    cases h
    exact ⟨σ, up_refl hK, trivial⟩
  | (j, none) :: r, (i, v) :: kl, (n, x) :: lk, K, K1, σ, lg, hK, hl, h => by
    obtain ⟨e1, e2, h1, h2⟩ := hl
    subst e1
    subst e2
    cases hg : rj_gen K r kl with
    | mk K2 t =>
      unfold rj_gen at h
      rw [hg] at h
      cases h
      obtain ⟨τ, u, g⟩ := gen_ok hK h2 hg
      exact ⟨τ, u, ⟨rfl, jg_ag u.2.1 u.1 h1⟩, g⟩
  | (j, some (a, b, d)) :: r, (i, v) :: kl, (n, x) :: lk, K, K1, σ, lg, hK, hl, h => by
    obtain ⟨e1, e2, h1, h2⟩ := hl
    subst e1
    subst e2
    cases hf : rj_fr K a b with
    | mk K0 f =>
      cases hg : rj_gen K0 r kl with
      | mk K2 t =>
        unfold rj_gen at h
        rw [hf] at h
        dsimp only at h
        rw [hg] at h
        cases h
        have key : ∀ y : Int, a ≤ y → y ≤ b → ∃ τ, rj_up K K2 σ τ ∧ rj_n K2.1.length τ (rj_scale d f) (d * y) ∧ rj_lo z K2.1.length τ t lk := fun y y1 y2 => by
          obtain ⟨τ, u, nf⟩ := fr_up hK y1 y2 hf
          obtain ⟨τ2, u2, g⟩ := gen_ok u.2.2 (ls_ag u.2.1 u.1 h2) hg
          exact ⟨τ2, up_trans u u2, n_scale d (rn_ag u2.2.1 u2.1 nf), g⟩
        match v, h1 with
        | .inl _, ⟨k, y, ex, ey, y1, y2⟩ =>
          obtain ⟨τ, u, g1, g2⟩ := key y y1 y2
          exact ⟨τ, u, ⟨rfl, k, ex, by rw [ey]; exact g1⟩, g2⟩
        | .inr (.inl _), ⟨k, y, ex, ey, y1, y2⟩ =>
          obtain ⟨τ, u, g1, g2⟩ := key y y1 y2
          exact ⟨τ, u, ⟨rfl, k, ex, by rw [ey]; exact g1⟩, g2⟩
  | [], _ :: _, _, _, _, _, _, _, h, _ => h.elim
  | [], [], _ :: _, _, _, _, _, _, h, _ => h.elim
  | _ :: _, [], _, _, _, _, _, _, h, _ => h.elim
  | _ :: _, _ :: _, [], _, _, _, _, _, h, _ => h.elim
def rj_beqV (u v : rj_V) : Bool := match u, v with
  | .inl f, .inl g => rj_beq f g
  | .inr (.inl f), .inr (.inl g) => rj_beq f g
  | .inr (.inr (.inl q)), .inr (.inr (.inl r)) => Nat.beq q r
  | .inr (.inr (.inr (.inl q))), .inr (.inr (.inr (.inl r))) => Nat.beq q r
  | .inr (.inr (.inr (.inr _))), .inr (.inr (.inr (.inr _))) => true
  | _, _ => false
theorem beqV_ok {u v : rj_V} (h : rj_beqV u v = true) : u = v := by
  unfold rj_beqV at h
  split at h
  · rw [beq_ok h]
  · rw [beq_ok h]
  · rw [Nat.eq_of_beq_eq_true h]
  · rw [Nat.eq_of_beq_eq_true h]
  · rfl
  · cases h
def rj_sdv (K : rj_K) (a b d : Int) (f : rj_F) : Bool := decide (0 < d) && (decide (f.1 % d = 0) && (rj_dv d f.2 && (decide (d * a ≤ (rj_iv K.1 f).1) && decide ((rj_iv K.1 f).2 ≤ d * b))))
theorem sdv_ok {K : rj_K} {σ : Nat → Int} {a b d v : Int} {f : rj_F} (hK : rj_sat σ K) (hf : rj_n K.1.length σ f v) (h : rj_sdv K a b d f = true) : ∃ y, v = d * y ∧ a ≤ y ∧ y ≤ b := by
  unfold rj_sdv at h
  rw [Bool.and_eq_true, Bool.and_eq_true, Bool.and_eq_true, Bool.and_eq_true, decide_eq_true_eq, decide_eq_true_eq, decide_eq_true_eq, decide_eq_true_eq] at h
  obtain ⟨k1, k2, k3, k4, k5⟩ := h
  obtain ⟨y, hy⟩ := dv_ok σ k3
  have hb := iv_ok hK.1 hf.1
  rw [hf.2] at hb
  have e1 : v = d * (f.1 / d + y) := by
    rw [← hf.2]
    unfold rj_ev
    rw [hy, Int.mul_add, Int.mul_ediv_cancel' (Int.dvd_of_emod_eq_zero k2)]
  refine ⟨f.1 / d + y, e1, ?_, ?_⟩
  · exact Int.le_of_mul_le_mul_left (by rw [← e1]; omega) k1
  · exact Int.le_of_mul_le_mul_left (by rw [← e1]; omega) k1
def rj_in1 (K : rj_K) (o : Option (Int × Int × Int)) (u v : rj_V) : Bool := match o with
  | none => rj_beqV u v
  | some (a, b, d) => match u, v with
    | .inl _, .inl f => rj_sdv K a b d f
    | .inr (.inl _), .inr (.inl f) => rj_sdv K a b d f
    | _, _ => false
def rj_inA (K : rj_K) : rj_Lc → List (Nat × rj_V) → List (Nat × rj_V) → Bool
  | [], [], [] => true
  | (j, o) :: r, (i, u) :: k0, (n, v) :: kl => Nat.beq i j && (Nat.beq n j && (rj_in1 K o u v && rj_inA K r k0 kl))
  | _, _, _ => false
def rj_wfV (N : Nat) (v : rj_V) : Prop := match v with
  | .inl f => rj_wf N f
  | .inr (.inl f) => rj_wf N f
  | _ => True
theorem g_wf {z : rj_Z} {N : Nat} {σ : Nat → Int} {v : rj_V} {x : Value} (h : rj_g z N σ v x) : rj_wfV N v := by
  match v, h with
  | .inl f, ⟨_, _, h⟩ => exact h.1
  | .inr (.inl f), ⟨_, _, h⟩ => exact h.1
  | .inr (.inr _), _ => trivial
theorem g_back {z : rj_Z} {N M : Nat} {σ τ : Nat → Int} {v : rj_V} {x : Value} (ha : rj_ag N σ τ) (hw : rj_wfV N v) (h : rj_g z M τ v x) : rj_g z N σ v x := by
  match v, hw, h with
  | .inl f, hw, ⟨k, e, h⟩ => exact ⟨k, e, hw, by rw [← ev_ag ha hw]; exact h.2⟩
  | .inr (.inl f), hw, ⟨k, e, h⟩ => exact ⟨k, e, hw, by rw [← ev_ag ha hw]; exact h.2⟩
  | .inr (.inr (.inl q)), _, h => exact h
  | .inr (.inr (.inr (.inl i))), _, h => exact h
  | .inr (.inr (.inr (.inr _))), _, h => exact h
theorem inA_ok {z : rj_Z} {N : Nat} {σ τ : Nat → Int} {K : rj_K} (ha : rj_ag N σ τ) (hK : rj_sat τ K) : ∀ {r : rj_Lc} {k0 kl : List (Nat × rj_V)} {lk : List (Nat × Value)}, (∀ p ∈ k0, rj_wfV N p.2) → rj_lo z K.1.length τ kl lk → rj_inA K r k0 kl = true → rj_ls z N σ r k0 lk
  | [], [], [], [], _, _, _ => trivial
  | (j, o) :: r, (i, u) :: k0, (n, v) :: kl, (n2, x) :: lk, hw, hl, h => by
    unfold rj_inA at h
    rw [Bool.and_eq_true, Bool.and_eq_true, Bool.and_eq_true] at h
    obtain ⟨h1, h2, h3, h4⟩ := h
    have h1 := Nat.eq_of_beq_eq_true h1
    have h2 := Nat.eq_of_beq_eq_true h2
    obtain ⟨⟨e1, g⟩, hl⟩ := hl
    dsimp only at e1 g
    refine ⟨e1.symm.trans h2, h1, ?_, inA_ok ha hK (fun p hp => hw p (List.mem_cons_of_mem _ hp)) hl h4⟩
    match o, h3 with
    | none, h3 =>
      have h3 : rj_beqV u v = true := h3
      rw [← beqV_ok h3] at g
      exact g_back ha (hw _ List.mem_cons_self) g
    | some (a, b, d), h3 =>
      match u, v, g, h3 with
      | .inl _, .inl f, ⟨k, ex, g⟩, h3 =>
        obtain ⟨y, y1, y2, y3⟩ := sdv_ok hK g h3
        exact ⟨k, y, ex, y1, y2, y3⟩
      | .inr (.inl _), .inr (.inl f), ⟨k, ex, g⟩, h3 =>
        obtain ⟨y, y1, y2, y3⟩ := sdv_ok hK g h3
        exact ⟨k, y, ex, y1, y2, y3⟩
      | .inl _, .inr _, _, h3 => cases h3
      | .inr (.inl _), .inl _, _, h3 => cases h3
      | .inr (.inl _), .inr (.inr _), _, h3 => cases h3
      | .inr (.inr _), _, _, h3 => cases h3
  | [], [], [], _ :: _, _, h, _ => h.elim
  | [], [], _ :: _, _, _, _, h => by cases h
  | [], _ :: _, _, _, _, _, h => by cases h
  | _ :: _, [], _, _, _, _, h => by cases h
  | _ :: _, _ :: _, [], _, _, _, h => by cases h
  | _ :: _, _ :: _, _ :: _, [], _, h, _ => h.elim
theorem lo_wf {z : rj_Z} {N : Nat} {σ : Nat → Int} : ∀ {lo : List (Nat × rj_V)} {lv : List (Nat × Value)}, rj_lo z N σ lo lv → ∀ p ∈ lo, rj_wfV N p.2
  | [], [], _, p, hp => absurd hp List.not_mem_nil
  | _ :: _, _ :: _, h, p, hp => by
    rcases List.mem_cons.mp hp with rfl | hp
    · exact g_wf h.1.2
    · exact lo_wf h.2 p hp
  | [], _ :: _, h, _, _ => h.elim
  | _ :: _, [], h, _, _ => h.elim
def rj_mf (lo : List (Nat × rj_V)) (hp : List rj_H) (ms : Nat × Nat × Nat) : Option rj_F := match ms.1 with
  | 0 => (match ri_key lo ms.2.1 with
    | some v => rj_vf v
    | none => none)
  | _ + 1 => match hp[ms.2.1]? with
    | some (.inl (_, fs)) => (match fs[ms.2.2]? with
      | some (some v) => rj_vf v
      | _ => none)
    | _ => none
def rj_mv (lv : List (Nat × Value)) (ws : va_W) (ms : Nat × Nat × Nat) : Int := match ms.1 with
  | 0 => rj_kv lv ms.2.1
  | _ + 1 => rj_wfv ws ms.2.1 ms.2.2
theorem mf_ok {U : State} {z : rj_Z} {N : Nat} {σ : Nat → Int} {lo : List (Nat × rj_V)} {lv : List (Nat × Value)} {hp : List rj_H} {ws : va_W} {ms : Nat × Nat × Nat} {f : rj_F} (h1 : rj_lo z N σ lo lv) (h2 : rj_hp U z N σ hp ws) (h : rj_mf lo hp ms = some f) : rj_n N σ f (rj_mv lv ws ms) := by
  obtain ⟨k, a, b⟩ := ms
  match k, h with
  | 0, h =>
    unfold rj_mf at h
    dsimp only at h
    split at h
    · rename_i v hv
      obtain ⟨x, g1, g2⟩ := rk_3 h1 hv
      have e : rj_mv lv ws (0, a, b) = rj_num x := by
        show rj_kv lv a = _
        unfold rj_kv
        rw [g1]
      rw [e]
      exact vf_ok g2 h
    · cases h
  | k + 1, h =>
    unfold rj_mf at h
    dsimp only at h
    split at h
    · rename_i ci fs hq
      split at h
      · rename_i v hv
        have hlt : a < ws.length := by rw [← h2.1]; exact (List.getElem?_eq_some_iff.mp hq).1
        have hw := List.getElem?_eq_getElem hlt
        obtain ⟨vs, e1, g1, g2⟩ := h2.2 a _ _ hq hw
        have hb : b < vs.length := by rw [← g1]; exact (List.getElem?_eq_some_iff.mp hv).1
        have hx := List.getElem?_eq_getElem hb
        have hg := g2 b _ _ hv hx
        have e : rj_mv lv ws (k + 1, a, b) = rj_num vs[b] := by
          show rj_wfv ws a b = _
          unfold rj_wfv
          rw [hw]
          cases hp : ws[a] with
          | mk ad en =>
            rw [hp] at e1
            dsimp only at e1
            subst e1
            dsimp only
            rw [hx]
        rw [e]
        exact vf_ok hg h
      · cases h
    · cases h
def rj_rdm (hp : List rj_H) (K : rj_K) (ms : Nat × Nat × Nat) : List rj_H × rj_K := match ms.1 with
  | 0 => (hp, K)
  | _ + 1 => match rj_getf hp K ms.2.1 ms.2.2 with
    | some (hp1, K1, _) => (hp1, K1)
    | none => (hp, K)
theorem rdm_ok {U : State} {z : rj_Z} {σ : Nat → Int} {hp hp1 : List rj_H} {K K1 : rj_K} {ws : va_W} {ms : Nat × Nat × Nat} (hH : rj_hp U z K.1.length σ hp ws) (hK : rj_sat σ K) (h : rj_rdm hp K ms = (hp1, K1)) : ∃ τ, rj_up K K1 σ τ ∧ rj_hp U z K1.1.length τ hp1 ws := by
  unfold rj_rdm at h
  split at h
  · cases h
    exact ⟨σ, up_refl hK, hH⟩
  · split at h
    · rename_i h1 k1 v hv
      cases h
      obtain ⟨a, ci, vs, y, q1, q2, -⟩ := getf_at hH hv
      obtain ⟨τ, u, t1, -⟩ := getf_ok hH hK q1 q2 hv
      exact ⟨τ, u, t1⟩
    · cases h
      exact ⟨σ, up_refl hK, hH⟩
theorem num_b (x : Value) : -9223372036854775808 ≤ rj_num x ∧ rj_num x ≤ 9223372036854775807 := by
  unfold rj_num
  split
  · rename_i k
    have h1 := r32_lo k
    have h2 := r32_hi k
    omega
  · rename_i k
    exact ⟨r64_lo k, r64_hi k⟩
  · omega
theorem mv_b (lv : List (Nat × Value)) (ws : va_W) (ms : Nat × Nat × Nat) : -9223372036854775808 ≤ rj_mv lv ws ms ∧ rj_mv lv ws ms ≤ 9223372036854775807 := by
  unfold rj_mv
  split
  · unfold rj_kv
    split
    · exact num_b _
    · omega
  · unfold rj_wfv
    split
    · split
      · exact num_b _
      · omega
    · omega
def rj_subW (a b : rj_Wr) : Bool := a.all (fun x => b.any (fun y => Nat.beq y.1 x.1 && Nat.beq y.2 x.2))
theorem subW_ok {a b : rj_Wr} (h : rj_subW a b = true) : ∀ x ∈ a, x ∈ b := fun x hx => by
  obtain ⟨y, h1, h2⟩ := List.any_eq_true.mp (List.all_eq_true.mp h x hx)
  rw [Bool.and_eq_true] at h2
  have e : y = x := Prod.ext (Nat.eq_of_beq_eq_true h2.1) (Nat.eq_of_beq_eq_true h2.2)
  rw [← e]
  exact h1
def rj_unw (a b : rj_Wr) : rj_Wr := b.foldl (fun acc x => rj_addw acc x.1 x.2) a
theorem unw_ok : ∀ (b a : rj_Wr), (∀ x ∈ a, x ∈ rj_unw a b) ∧ ∀ x ∈ b, x ∈ rj_unw a b
  | [], a => ⟨fun _ h => h, fun _ h => absurd h List.not_mem_nil⟩
  | y :: b, a => by
    obtain ⟨h1, h2⟩ := unw_ok b (rj_addw a y.1 y.2)
    refine ⟨fun x hx => h1 x (addw_sub a y.1 y.2 x hx), fun x hx => ?_⟩
    rcases List.mem_cons.mp hx with rfl | hx
    · exact h1 _ (addw_mem a x.1 x.2)
    · exact h2 x hx
