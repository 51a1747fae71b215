/-! v2: fresh names, fields and elements read and written -/
def rj_up (K K1 : rj_K) (σ τ : Nat → Int) : Prop := rj_ag K.1.length σ τ ∧ K.1.length ≤ K1.1.length ∧ rj_sat τ K1
theorem up_refl {K : rj_K} {σ : Nat → Int} (h : rj_sat σ K) : rj_up K K σ σ := ⟨fun _ _ => rfl, Nat.le_refl _, h⟩
theorem up_trans {K K1 K2 : rj_K} {σ τ υ : Nat → Int} (h1 : rj_up K K1 σ τ) (h2 : rj_up K1 K2 τ υ) : rj_up K K2 σ υ := ⟨fun n hn => (h2.1 n (Nat.lt_of_lt_of_le hn h1.2.1)).trans (h1.1 n hn), Nat.le_trans h1.2.1 h2.2.1, h2.2.2⟩
theorem up_len {K K1 : rj_K} {σ : Nat → Int} (h : rj_sat σ K1) (hl : K1.1.length = K.1.length) : rj_up K K1 σ σ := ⟨fun _ _ => rfl, Nat.le_of_eq hl.symm, h⟩
theorem fr_up {K K1 : rj_K} {σ : Nat → Int} {lo hi z : Int} {f : rj_F} (hK : rj_sat σ K) (h1 : lo ≤ z) (h2 : z ≤ hi) (h : rj_fr K lo hi = (K1, f)) : ∃ τ, rj_up K K1 σ τ ∧ rj_n K1.1.length τ f z := by
  obtain ⟨τ, a1, a2, a3, a4, a5⟩ := fr_ok hK h1 h2
  rw [h] at a2 a3 a4 a5
  exact ⟨τ, ⟨a1, a5, a2⟩, a3, a4⟩
def rj_frB : Nat → rj_K → rj_K × rj_F
  | 0, K => (K, rj_k 0)
  | k + 1, K => match rj_fr K 0 1 with
    | (K1, b) => match rj_frB k K1 with
      | (K2, r) => (K2, rj_add b (rj_scale 2 r))
theorem frB_up : ∀ (k : Nat) {K K1 : rj_K} {σ : Nat → Int} {z : Int} {f : rj_F}, rj_sat σ K → 0 ≤ z → z < 2 ^ k → rj_frB k K = (K1, f) → ∃ τ, rj_up K K1 σ τ ∧ rj_n K1.1.length τ f z
  | 0, K, K1, σ, z, f, hK, h1, h2, h => by
    cases h
    refine ⟨σ, up_refl hK, wf_k, ?_⟩
    rw [ev_k]
    have : z < 1 := h2
    omega
  | k + 1, K, K1, σ, z, f, hK, h1, h2, h => by
    unfold rj_frB at h
    split at h
    rename_i K2 b hb
    split at h
    rename_i K3 r hr
    cases h
    have hp : (2 : Int) ^ (k + 1) = 2 ^ k * 2 := Int.pow_succ 2 k
    obtain ⟨τ, t1, t2⟩ := fr_up (z := z % 2) hK (by omega) (by omega) hb
    obtain ⟨υ, u1, u2⟩ := frB_up k (z := z / 2) t1.2.2 (by omega) (by omega) hr
    refine ⟨υ, up_trans t1 u1, wf_add (wf_le u1.2.1 t2.1) (wf_scale u2.1), ?_⟩
    rw [ev_add, ev_scale, ev_ag u1.1 t2.1, t2.2, u2.2]
    omega
def rj_nw (K : rj_K) (lo hi : Int) (bt : Nat) : rj_K × rj_F := match bt with
  | 0 => rj_fr K lo hi
  | k + 1 => match decide (0 ≤ lo) && decide (hi < 2 ^ (k + 1)) with
    | true => rj_frB (k + 1) K
    | false => rj_fr K lo hi
theorem nw_up {K K1 : rj_K} {σ : Nat → Int} {lo hi z : Int} {bt : Nat} {f : rj_F} (hK : rj_sat σ K) (h1 : lo ≤ z) (h2 : z ≤ hi) (h : rj_nw K lo hi bt = (K1, f)) : ∃ τ, rj_up K K1 σ τ ∧ rj_n K1.1.length τ f z := by
  unfold rj_nw at h
  split at h
  · exact fr_up hK h1 h2 h
  · split at h
    · rename_i hd
      rw [Bool.and_eq_true, decide_eq_true_eq, decide_eq_true_eq] at hd
      exact frB_up _ hK (by omega) (by omega) h
    · exact fr_up hK h1 h2 h
def rj_getf (hp : List rj_H) (K : rj_K) (q k : Nat) : Option (List rj_H × rj_K × rj_V) := match hp[q]? with
  | some (.inl (ci, fs)) => (match fs[k]? with
    | some (some v) => some (hp, K, v)
    | some none => (match gi_f ci k with
      | some (lg, lo, hi, bt) => (match rj_nw K lo hi bt with
        | (K1, f) => (match lg with
          | false => some (hp.set q (.inl (ci, fs.set k (some (.inl f)))), K1, .inl f)
          | true => some (hp.set q (.inl (ci, fs.set k (some (.inr (.inl f))))), K1, .inr (.inl f))))
      | none => none)
    | none => none)
  | _ => none
theorem fs_know {z : rj_Z} {N : Nat} {σ : Nat → Int} {ci k : Nat} {fs : List (Option rj_V)} {vs : List Value} {v : rj_V} {x : Value} (h : rj_fs z N σ ci fs vs) (hx : vs[k]? = some x) (hv : rj_g z N σ v x) : rj_fs z N σ ci (fs.set k (some v)) vs := by
  refine ⟨by rw [List.length_set]; exact h.1, fun j o y ho hy => ?_⟩
  by_cases hj : k = j
  · subst hj
    rw [List.getElem?_set] at ho
    simp only [if_true] at ho
    split at ho
    · cases ho
      rw [hx] at hy
      cases hy
      exact hv
    · cases ho
  · rw [List.getElem?_set_ne hj] at ho
    exact h.2 j o y ho hy
theorem getf_ok {U : State} {z : rj_Z} {σ : Nat → Int} {hp hp1 : List rj_H} {K K1 : rj_K} {w : va_W} {q k a ci : Nat} {vs : List Value} {v : rj_V} {x : Value} (hH : rj_hp U z K.1.length σ hp w) (hK : rj_sat σ K) (hw : w[q]? = some (a, .inr (ci, vs))) (hx : vs[k]? = some x) (h : rj_getf hp K q k = some (hp1, K1, v)) : ∃ τ, rj_up K K1 σ τ ∧ rj_hp U z K1.1.length τ hp1 w ∧ rj_g z K1.1.length τ v x := by
  unfold rj_getf at h
  split at h
  · rename_i cj fs hq
    obtain ⟨vs', e1, e2⟩ := hH.2 q _ _ hq hw
    cases e1
    split at h
    · rename_i v' hv
      cases h
      exact ⟨σ, up_refl hK, hH, e2.2 k _ x hv hx⟩
    · rename_i hv
      have hu : rj_u ci k x := e2.2 k _ x hv hx
      unfold rj_u at hu
      split at h
      · rename_i lg lo hi bt hg
        rw [hg] at hu
        split at h
        rename_i K2 f hn
        cases lg with
        | false =>
          obtain ⟨y, rfl, y1, y2⟩ := hu
          cases h
          obtain ⟨τ, t1, t2⟩ := nw_up hK y1 y2 hn
          have hv : rj_g z K1.1.length τ (.inl f) (.int y) := ⟨y, rfl, t2⟩
          have hH1 := hp_ag t1.2.1 t1.1 hH
          refine ⟨τ, t1, hp_know hH1 hw ⟨vs, rfl, fs_know ?_ hx hv⟩, hv⟩
          exact ⟨e2.1, fun j o y ho hy => fl_ag t1.2.1 t1.1 (e2.2 j o y ho hy)⟩
        | true =>
          obtain ⟨y, rfl, y1, y2⟩ := hu
          cases h
          obtain ⟨τ, t1, t2⟩ := nw_up hK y1 y2 hn
          have hv : rj_g z K1.1.length τ (.inr (.inl f)) (.long y) := ⟨y, rfl, t2⟩
          have hH1 := hp_ag t1.2.1 t1.1 hH
          refine ⟨τ, t1, hp_know hH1 hw ⟨vs, rfl, fs_know ?_ hx hv⟩, hv⟩
          exact ⟨e2.1, fun j o y ho hy => fl_ag t1.2.1 t1.1 (e2.2 j o y ho hy)⟩
      · cases h
    · cases h
  · cases h
/-! places -/
def rj_le (K : rj_K) (g : rj_F) : Bool := rj_bd K g || rj_ent 12 K g
theorem le_ok {σ : Nat → Int} {K : rj_K} (hK : rj_sat σ K) {g : rj_F} (hg : rj_wf K.1.length g) (h : rj_le K g = true) : rj_ev σ g ≤ 0 := by
  unfold rj_le at h
  rw [Bool.or_eq_true] at h
  rcases h with h | h
  · exact bd_ok hK hg h
  · exact ent_ok hK 12 hg h
/-- a form is within bounds -/
def rj_wi (K : rj_K) (f : rj_F) (lo hi : Int) : Bool := rj_le K (rj_plus (rj_scale (-1) f) lo) && rj_le K (rj_plus f (-hi))
theorem wi_ok {σ : Nat → Int} {K : rj_K} (hK : rj_sat σ K) {f : rj_F} {lo hi : Int} (hf : rj_wf K.1.length f) (h : rj_wi K f lo hi = true) : lo ≤ rj_ev σ f ∧ rj_ev σ f ≤ hi := by
  unfold rj_wi at h
  rw [Bool.and_eq_true] at h
  have h1 := le_ok hK (g := rj_plus (rj_scale (-1) f) lo) (wf_scale hf) h.1
  have h2 := le_ok hK (g := rj_plus f (-hi)) hf h.2
  rw [ev_plus, ev_scale] at h1
  rw [ev_plus] at h2
  omega
def rj_beqT : rj_T → rj_T → Bool
  | [], [] => true
  | (n, k) :: a, (m, l) :: b => Nat.beq n m && (decide (k = l) && rj_beqT a b)
  | _, _ => false
theorem beqT_ok : ∀ {a b : rj_T}, rj_beqT a b = true → a = b
  | [], [], _ => rfl
  | (n, k) :: a, (m, l) :: b, h => by
    unfold rj_beqT at h
    rw [Bool.and_eq_true, Bool.and_eq_true, decide_eq_true_eq] at h
    rw [Nat.eq_of_beq_eq_true h.1, h.2.1, beqT_ok h.2.2]
  | [], _ :: _, h => by cases h
  | _ :: _, [], h => by cases h
def rj_beq (f g : rj_F) : Bool := decide (f.1 = g.1) && rj_beqT f.2 g.2
theorem beq_ok {f g : rj_F} (h : rj_beq f g = true) : f = g := by
  unfold rj_beq at h
  rw [Bool.and_eq_true, decide_eq_true_eq] at h
  exact Prod.ext h.1 (beqT_ok h.2)
def rj_find : List (rj_F × rj_F) → rj_F → Option rj_F
  | [], _ => none
  | p :: r, f => match rj_beq p.1 f with
    | true => some p.2
    | false => rj_find r f
theorem find_ok : ∀ {me : List (rj_F × rj_F)} {f v : rj_F}, rj_find me f = some v → (f, v) ∈ me
  | [], _, _, h => by cases h
  | (a, b) :: r, f, v, h => by
    unfold rj_find at h
    split at h
    · rename_i hb
      cases h
      have hb : a = f := beq_ok hb
      subst hb
      exact List.mem_cons_self
    · exact List.mem_cons_of_mem _ (find_ok h)
def rj_dv (m : Int) (t : rj_T) : Bool := t.all (fun q => decide (q.2 % m = 0))
theorem dv_ok {m : Int} (σ : Nat → Int) : ∀ {t : rj_T}, rj_dv m t = true → ∃ k, rj_sum σ t = m * k
  | [], _ => ⟨0, by show (0 : Int) = m * 0; omega⟩
  | (n, c) :: t, h => by
    unfold rj_dv at h
    rw [List.all_cons, Bool.and_eq_true, decide_eq_true_eq] at h
    obtain ⟨k, hk⟩ := dv_ok σ (t := t) h.2
    obtain ⟨d, hd⟩ := Int.dvd_of_emod_eq_zero h.1
    refine ⟨d * σ n + k, ?_⟩
    show c * σ n + rj_sum σ t = _
    have hd : c = m * d := hd
    rw [hk, hd, Int.mul_add, Int.mul_assoc]
def rj_jn (a b : Int × Int) : Int × Int := (min a.1 b.1, max a.2 b.2)
def rj_hull : List (Int × Int) → Int × Int
  | [] => (0, 0)
  | a :: r => rj_jn a (rj_hull r)
def rj_meet : List (Int × Int) → Int × Int
  | [] => (-9223372036854775808, 9223372036854775807)
  | [a] => a
  | a :: r => (max a.1 (rj_meet r).1, min a.2 (rj_meet r).2)
theorem hull0 : ∀ (R : List (Int × Int)), (rj_hull R).1 ≤ 0 ∧ 0 ≤ (rj_hull R).2
  | [] => ⟨Int.le_refl _, Int.le_refl _⟩
  | a :: r => by
    have := hull0 r
    show min a.1 (rj_hull r).1 ≤ 0 ∧ 0 ≤ max a.2 (rj_hull r).2
    omega
theorem hull_ok : ∀ {R : List (Int × Int)} {j : Nat} {v : Int}, rj_in (R.getD j (0, 0)) v → rj_in (rj_hull R) v
  | [], j, v, h => by rw [List.getD_nil] at h; exact h
  | a :: r, 0, v, h => by
    have h : rj_in a v := h
    have h1 := h.1
    have h2 := h.2
    show min a.1 (rj_hull r).1 ≤ v ∧ v ≤ max a.2 (rj_hull r).2
    omega
  | a :: r, j + 1, v, h => by
    have h := hull_ok (R := r) (j := j) (v := v) h
    have h1 := h.1
    have h2 := h.2
    show min a.1 (rj_hull r).1 ≤ v ∧ v ≤ max a.2 (rj_hull r).2
    omega
theorem meet_ok : ∀ {R : List (Int × Int)} {v : Int}, rj_in (rj_meet R) v → ∀ r ∈ R, rj_in r v
  | [], _, _, r, hr => absurd hr List.not_mem_nil
  | [a], v, h, r, hr => by rw [List.mem_singleton.mp hr]; exact h
  | a :: b :: t, v, h, r, hr => by
    have h : max a.1 (rj_meet (b :: t)).1 ≤ v ∧ v ≤ min a.2 (rj_meet (b :: t)).2 := h
    rcases List.mem_cons.mp hr with rfl | hr
    · exact ⟨by omega, by omega⟩
    · exact meet_ok (R := b :: t) ⟨by omega, by omega⟩ r hr
def rj_rr (q : Nat) (ix : rj_F) : Int × Int := match rj_dv (gi_a q).1 ix.2 with
  | true => (gi_a q).2.getD (ix.1 % (gi_a q).1).toNat (0, 0)
  | false => rj_hull (gi_a q).2
def rj_rw (q : Nat) (ix : rj_F) : Int × Int := match rj_dv (gi_a q).1 ix.2 with
  | true => (gi_a q).2.getD (ix.1 % (gi_a q).1).toNat (0, 0)
  | false => match Nat.beq (gi_a q).1 (gi_a q).2.length && Nat.blt 0 (gi_a q).1 with
    | true => rj_meet (gi_a q).2
    | false => (1, 0)
theorem res_eq {σ : Nat → Int} {m : Nat} {ix : rj_F} (h : rj_dv m ix.2 = true) (h0 : 0 ≤ rj_ev σ ix) : (rj_ev σ ix).toNat % m = (ix.1 % (m : Int)).toNat := by
  obtain ⟨k, hk⟩ := dv_ok σ h
  have he : rj_ev σ ix = ix.1 + m * k := by
    unfold rj_ev
    rw [hk]
  have e1 : (((rj_ev σ ix).toNat % m : Nat) : Int) = rj_ev σ ix % (m : Int) := by
    rw [Int.natCast_emod, Int.toNat_of_nonneg h0]
  have e2 : rj_ev σ ix % (m : Int) = ix.1 % (m : Int) := by
    rw [he, Int.add_mul_emod_self_left]
  rw [← e2, ← e1, Int.toNat_natCast]
theorem rr_ok {σ : Nat → Int} {q : Nat} {ix : rj_F} {v : Int} (h0 : 0 ≤ rj_ev σ ix) (h : rj_in (rj_er q (rj_ev σ ix).toNat) v) : rj_in (rj_rr q ix) v := by
  unfold rj_rr
  unfold rj_er at h
  split
  · rename_i hd
    rw [res_eq hd h0] at h
    exact h
  · exact hull_ok h
theorem rw_ok {σ : Nat → Int} {q : Nat} {ix : rj_F} {v : Int} (h0 : 0 ≤ rj_ev σ ix) (h : rj_in (rj_rw q ix) v) : rj_in (rj_er q (rj_ev σ ix).toNat) v := by
  unfold rj_rw at h
  unfold rj_er
  split at h
  · rename_i hd
    rw [res_eq hd h0]
    exact h
  · split at h
    · rename_i hb
      rw [Bool.and_eq_true] at hb
      have hl := Nat.eq_of_beq_eq_true hb.1
      have hp : 0 < (gi_a q).1 := Nat.blt_eq.mp hb.2
      have hlt : (rj_ev σ ix).toNat % (gi_a q).1 < (gi_a q).2.length := by rw [← hl]; exact Nat.mod_lt _ hp
      refine meet_ok h _ ?_
      rw [List.getD_eq_getElem?_getD, List.getElem?_eq_getElem hlt]
      exact List.getElem_mem hlt
    · have h1 := h.1
      have h2 := h.2
      dsimp only at h1 h2
      omega
