/-! v2: facts learnt and shown; what may have been written is within its range; what may be written is forgotten -/
/-- a fact is learnt: none: it can't be told; some none: it can't be -/
def rj_as1 (lo : List (Nat × rj_V)) (en : rj_En) (hp : List rj_H) (K : rj_K) (F : rj_Ft) : Option (Option (List rj_H × rj_K)) := match rj_fsum lo en F.2.1 hp K (rj_k F.1) with
  | none => none
  | some (hp1, K1, f) => match rj_fgs lo en F.2.2 hp1 K1 [] with
    | none => none
    | some (hp2, K2, none) => some (some (hp2, K2))
    | some (hp2, K2, some []) => (match rj_le0 K2 f with
      | none => some none
      | some K3 => some (some (hp2, K3)))
    | some (hp2, K2, some gs) => some (some (hp2, (K2.1, (f, gs) :: K2.2)))
def rj_asL (lo : List (Nat × rj_V)) (en : rj_En) : List rj_Ft → List rj_H → rj_K → Option (Option (List rj_H × rj_K))
  | [], hp, K => (match rj_prop K with
    | none => some none
    | some K1 => some (some (hp, K1)))
  | F :: r, hp, K => match rj_as1 lo en hp K F with
    | none => none
    | some none => some none
    | some (some (hp1, K1)) => rj_asL lo en r hp1 K1
section FB
variable {U : State} {z : rj_Z} {w : va_W} {ar : Nat → Int} {w0 : va_W} {rt : Int} {lv : List (Nat × Value)} {lo : List (Nat × rj_V)} {en : rj_En}
theorem as1_ok {σ : Nat → Int} {hp : List rj_H} {K : rj_K} {F : rj_Ft} {o : Option (List rj_H × rj_K)} (hH : rj_hp U z K.1.length σ hp w) (hK : rj_sat σ K) (hl : rj_lo z K.1.length σ lo lv) (he : rj_en K.1.length σ ar w0 rt en) (hF : rj_fh (rj_sv ar w0 rt lv w) F) (h : rj_as1 lo en hp K F = some o) : ∃ hp1 K1 τ, o = some (hp1, K1) ∧ rj_up K K1 σ τ ∧ rj_hp U z K1.1.length τ hp1 w := by
  unfold rj_as1 at h
  split at h
  · cases h
  · rename_i hp1 K1 f hs
    obtain ⟨τ, u, t1, t2⟩ := fsum_ok F.2.1 hH hK hl he ⟨wf_k, ev_k σ F.1⟩ hs
    have hgs := fun {hp2 : List rj_H} {K2 : rj_K} {o2 : Option (List (Nat × Bool × Int))} (hg : rj_fgs lo en F.2.2 hp1 K1 [] = some (hp2, K2, o2)) => fgs_ok (P := True) F.2.2 t1 u.2.2 (lo_ag u.2.1 u.1 hl) (en_ag u.2.1 u.1 he) ⟨fun _ h => absurd h List.not_mem_nil, fun _ => trivial⟩ hg
    split at h
    · cases h
    · rename_i hp2 K2 hg
      obtain ⟨υ, u2, a1, -⟩ := hgs hg
      cases h
      exact ⟨hp2, K2, υ, rfl, up_trans u u2, a1⟩
    · rename_i hp2 K2 hg
      obtain ⟨υ, u2, a1, a2⟩ := hgs hg
      have hf := rn_ag u2.2.1 u2.1 t2
      have hle : rj_ev υ f ≤ 0 := by
        rw [hf.2]
        exact hF (fun g hg => ((a2 [] rfl).2 (fun _ h => absurd h List.not_mem_nil)).2 g hg)
      obtain ⟨K3, e3, s3, l3⟩ := le0_ok u2.2.2 hf.1 hle
      rw [e3] at h
      cases h
      refine ⟨hp2, K3, υ, rfl, up_trans (up_trans u u2) (up_len s3 l3), ?_⟩
      rw [l3]
      exact a1
    · rename_i hp2 K2 gs _ hg
      obtain ⟨υ, u2, a1, a2⟩ := hgs hg
      have hf := rn_ag u2.2.1 u2.1 t2
      cases h
      have hsat : rj_sat υ (K2.1, (f, gs) :: K2.2) := ⟨u2.2.2.1, List.forall_mem_cons.mpr ⟨⟨hf.1, (a2 gs rfl).1, fun hq => by
        rw [hf.2]
        exact hF (fun g hg => ((a2 gs rfl).2 hq).2 g hg)⟩, u2.2.2.2⟩⟩
      exact ⟨hp2, _, υ, rfl, up_trans (up_trans u u2) (up_len (K := K2) hsat rfl), a1⟩
theorem asL_ok : ∀ (r : List rj_Ft) {σ : Nat → Int} {hp : List rj_H} {K : rj_K} {o : Option (List rj_H × rj_K)}, rj_hp U z K.1.length σ hp w → rj_sat σ K → rj_lo z K.1.length σ lo lv → rj_en K.1.length σ ar w0 rt en → (∀ F ∈ r, rj_fh (rj_sv ar w0 rt lv w) F) → rj_asL lo en r hp K = some o → ∃ hp1 K1 τ, o = some (hp1, K1) ∧ rj_up K K1 σ τ ∧ rj_hp U z K1.1.length τ hp1 w
  | [], σ, hp, K, o, hH, hK, hl, he, hF, h => by
    unfold rj_asL at h
    obtain ⟨K1, e1, s1, l1⟩ := prop_ok hK
    rw [e1] at h
    cases h
    exact ⟨hp, K1, σ, rfl, up_len s1 l1, by rw [l1]; exact hH⟩
  | F :: r, σ, hp, K, o, hH, hK, hl, he, hF, h => by
    unfold rj_asL at h
    split at h
    · cases h
    · rename_i h1
      obtain ⟨hp1, K1, τ, e, -⟩ := as1_ok hH hK hl he (hF F List.mem_cons_self) h1
      cases e
    · rename_i hp2 K2 h1
      obtain ⟨hp1, K1, τ, e, u, t1⟩ := as1_ok hH hK hl he (hF F List.mem_cons_self) h1
      cases e
      obtain ⟨hp3, K3, υ, e3, u3, t3⟩ := asL_ok r t1 u.2.2 (lo_ag u.2.1 u.1 hl) (en_ag u.2.1 u.1 he) (fun G hG => hF G (List.mem_cons_of_mem _ hG)) h
      exact ⟨hp3, K3, υ, e3, up_trans u u3, t3⟩
end FB
/-! a fact is shown -/
def rj_chG (lo : List (Nat × rj_V)) (en : rj_En) (f : rj_F) : List (rj_L × Bool × Int) → List rj_H → rj_K → Bool
  | [], _, K => (match rj_le K f with
    | true => true
    | false => match rj_prN 6 K with
      | none => true
      | some K1 => rj_le K1 f)
  | (s, b, v) :: r, hp, K => match rj_sf lo en hp K s with
    | none => false
    | some (hp1, K1, g) => match rj_le0 K1 (match b with
        | true => rj_plus (rj_scale (-1) g) v
        | false => rj_plus g (-v)) with
      | none => true
      | some K2 => rj_chG lo en f r hp1 K2
def rj_ch1 (lo : List (Nat × rj_V)) (en : rj_En) (hp : List rj_H) (K : rj_K) (F : rj_Ft) : Bool := match rj_fsum lo en F.2.1 hp K (rj_k F.1) with
  | none => false
  | some (hp1, K1, f) => rj_chG lo en f F.2.2 hp1 K1
def rj_chL (lo : List (Nat × rj_V)) (en : rj_En) (hp : List rj_H) (K : rj_K) (r : List rj_Ft) : Bool := r.all (rj_ch1 lo en hp K)
section FC
variable {U : State} {z : rj_Z} {w : va_W} {ar : Nat → Int} {w0 : va_W} {rt : Int} {lv : List (Nat × Value)} {lo : List (Nat × rj_V)} {en : rj_En}
theorem chG_ok : ∀ (r : List (rj_L × Bool × Int)) {σ : Nat → Int} {hp : List rj_H} {K : rj_K} {f : rj_F} {x : Int}, rj_hp U z K.1.length σ hp w → rj_sat σ K → rj_lo z K.1.length σ lo lv → rj_en K.1.length σ ar w0 rt en → rj_n K.1.length σ f x → (∀ g ∈ r, rj_sg (rj_sv ar w0 rt lv w) g) → rj_chG lo en f r hp K = true → x ≤ 0
  | [], σ, hp, K, f, x, hH, hK, hl, he, hf, hg, h => by
    unfold rj_chG at h
    split at h
    · rename_i h1
      have := le_ok hK hf.1 h1
      rw [hf.2] at this
      exact this
    · obtain ⟨K1, e1, s1, l1⟩ := prN_ok 6 hK
      rw [e1] at h
      have := le_ok s1 (by rw [l1]; exact hf.1) h
      rw [hf.2] at this
      exact this
  | (s, b, v) :: r, σ, hp, K, f, x, hH, hK, hl, he, hf, hg, h => by
    unfold rj_chG at h
    split at h
    · cases h
    · rename_i hp1 K1 g hs
      obtain ⟨τ, u, t1, t2⟩ := sf_ok hH hK hl he hs
      obtain ⟨g1, g2⟩ := List.forall_mem_cons.mp hg
      have hle : ∃ K2, rj_le0 K1 (match b with
        | true => rj_plus (rj_scale (-1) g) v
        | false => rj_plus g (-v)) = some K2 ∧ rj_sat τ K2 ∧ K2.1.length = K1.1.length := by
        cases b with
        | true =>
          have g1 : v ≤ rj_sv ar w0 rt lv w s := g1
          refine le0_ok u.2.2 (f := rj_plus (rj_scale (-1) g) v) (wf_scale t2.1) ?_
          rw [ev_plus, ev_scale, t2.2]
          omega
        | false =>
          have g1 : rj_sv ar w0 rt lv w s ≤ v := g1
          refine le0_ok u.2.2 (f := rj_plus g (-v)) t2.1 ?_
          rw [ev_plus, t2.2]
          omega
      obtain ⟨K2, e2, s2, l2⟩ := hle
      rw [e2] at h
      dsimp only at h
      have u2 := up_trans u (up_len s2 l2)
      exact chG_ok r (by rw [l2]; exact t1) s2 (lo_ag u2.2.1 u2.1 hl) (en_ag u2.2.1 u2.1 he) (rn_ag u2.2.1 u2.1 hf) g2 h
theorem ch1_ok {σ : Nat → Int} {hp : List rj_H} {K : rj_K} {F : rj_Ft} (hH : rj_hp U z K.1.length σ hp w) (hK : rj_sat σ K) (hl : rj_lo z K.1.length σ lo lv) (he : rj_en K.1.length σ ar w0 rt en) (h : rj_ch1 lo en hp K F = true) : rj_fh (rj_sv ar w0 rt lv w) F := by
  unfold rj_ch1 at h
  split at h
  · cases h
  · rename_i hp1 K1 f hs
    obtain ⟨τ, u, t1, t2⟩ := fsum_ok F.2.1 hH hK hl he ⟨wf_k, ev_k σ F.1⟩ hs
    exact fun hg => chG_ok F.2.2 t1 u.2.2 (lo_ag u.2.1 u.1 hl) (en_ag u.2.1 u.1 he) t2 hg h
theorem chL_ok {σ : Nat → Int} {hp : List rj_H} {K : rj_K} {r : List rj_Ft} (hH : rj_hp U z K.1.length σ hp w) (hK : rj_sat σ K) (hl : rj_lo z K.1.length σ lo lv) (he : rj_en K.1.length σ ar w0 rt en) (h : rj_chL lo en hp K r = true) : ∀ F ∈ r, rj_fh (rj_sv ar w0 rt lv w) F := fun F hF => ch1_ok hH hK hl he (List.all_eq_true.mp h F hF)
end FC
/-! within ranges -/
def rj_wi1 (hp : List rj_H) (K : rj_K) (s : Nat × Nat) : Bool := match hp[s.1]?, s.2 with
  | some (.inl (ci, fs)), k + 1 => (match gi_f ci k, fs[k]? with
    | some (lg, lo, hi, _), some (some v) => rj_fk lg v && (match rj_vf v with
      | some f => rj_wi K f lo hi
      | none => false)
    | some _, some none => true
    | _, _ => false)
  | some (.inr (.inl (_, _, _, ex))), 0 => !(Nat.beq s.1 116) || ex.isEmpty
  | _, _ => false
def rj_wiL (hp : List rj_H) (K : rj_K) (wr : rj_Wr) : Bool := wr.all (rj_wi1 hp K)
def gi_ck (c : rj_H) : Bool := match c with
  | .inl (ci, gs) => (List.range gs.length).all (fun k => match gs[k]?, gi_f ci k with
    | some none, some _ => true
    | some (some _), none => true
    | _, _ => false)
  | .inr (.inl (_, _, me, ex)) => me.isEmpty && ex.isEmpty
  | .inr (.inr _) => true
theorem gi_ok : gi_h.all gi_ck = true := by decide +kernel
theorem gi_obj {q ci k : Nat} {gs : List (Option rj_V)} {o : Option rj_V} (h : gi_h[q]? = some (.inl (ci, gs))) (hk : gs[k]? = some o) : (o = none ∧ ∃ r, gi_f ci k = some r) ∨ gi_f ci k = none := by
  have h1 := List.all_eq_true.mp gi_ok _ (List.mem_of_getElem? h)
  have h2 := List.all_eq_true.mp (show (List.range gs.length).all (fun k => match gs[k]?, gi_f ci k with
    | some none, some _ => true
    | some (some _), none => true
    | _, _ => false) = true from h1) k (List.mem_range.mpr (List.getElem?_eq_some_iff.mp hk).1)
  rw [hk] at h2
  cases o with
  | none =>
    cases hg : gi_f ci k with
    | none => exact Or.inr rfl
    | some r => exact Or.inl ⟨rfl, r, rfl⟩
  | some v =>
    cases hg : gi_f ci k with
    | none => exact Or.inr rfl
    | some r => rw [hg] at h2; cases h2
theorem gi_arr {q g n : Nat} {me : List (rj_F × rj_F)} {ex : List rj_X} (h : gi_h[q]? = some (.inr (.inl (g, n, me, ex)))) : me = [] ∧ ex = [] := by
  have h1 := List.all_eq_true.mp gi_ok _ (List.mem_of_getElem? h)
  have h1 : (me.isEmpty && ex.isEmpty) = true := h1
  rw [Bool.and_eq_true] at h1
  exact ⟨List.isEmpty_iff.mp h1.1, List.isEmpty_iff.mp h1.2⟩
section WI
variable {U : State} {z : rj_Z} {N : Nat} {σ : Nat → Int}
/-- what the invariant says of an array of numbers -/
theorem inv_i {w : va_W} {q a n : Nat} {cA : ClassId} {f : Nat → Int32} (h : rj_inv U z w) (hw : w[q]? = some (a, .inl (cA, n, .inl f))) : rj_ar N σ q n [] [] (fun j => (f j).toInt) := by
  have hlt : q < gi_h.length := by rw [h.1]; exact (List.getElem?_eq_some_iff.mp hw).1
  have hc := List.getElem?_eq_getElem hlt
  generalize gi_h[q] = c at hc
  have hr := h.2 q c _ hc hw
  match c, hc, hr with
  | .inl (ci, fs), _, ⟨vs, e, _⟩ => cases e
  | .inr (.inl (g, m, me, ex)), hc, hr =>
    obtain ⟨e1, e2⟩ := gi_arr hc
    subst e1
    subst e2
    rcases hr with ⟨cB, F, e, -, -, ha⟩ | ⟨cB, F, e, -⟩
    · cases e
      exact ar_ag (Nat.zero_le N) (fun n hn => absurd hn (Nat.not_lt_zero n)) ha
    · cases e
  | .inr (.inr (ci, els)), _, ⟨cB, F, r, e, _⟩ => cases e
theorem inv_l {w : va_W} {q a n : Nat} {cA : ClassId} {f : Nat → Int64} (h : rj_inv U z w) (hw : w[q]? = some (a, .inl (cA, n, .inr (.inl f)))) : rj_ar N σ q n [] [] (fun j => (f j).toInt) := by
  have hlt : q < gi_h.length := by rw [h.1]; exact (List.getElem?_eq_some_iff.mp hw).1
  have hc := List.getElem?_eq_getElem hlt
  generalize gi_h[q] = c at hc
  have hr := h.2 q c _ hc hw
  match c, hc, hr with
  | .inl (ci, fs), _, ⟨vs, e, _⟩ => cases e
  | .inr (.inl (g, m, me, ex)), hc, hr =>
    obtain ⟨e1, e2⟩ := gi_arr hc
    subst e1
    subst e2
    rcases hr with ⟨cB, F, e, -⟩ | ⟨cB, F, e, -, -, ha⟩
    · cases e
    · cases e
      exact ar_ag (Nat.zero_le N) (fun n hn => absurd hn (Nat.not_lt_zero n)) ha
  | .inr (.inr (ci, els)), _, ⟨cB, F, r, e, _⟩ => cases e
/-- what it says of a field that is a number -/
theorem inv_f {w : va_W} {q a ci k : Nat} {vs : List Value} {x : Value} {r : Bool × Int × Int × Nat} (h : rj_inv U z w) (hw : w[q]? = some (a, .inr (ci, vs))) (hx : vs[k]? = some x) (hg : gi_f ci k = some r) : rj_u ci k x := by
  have hlt : q < gi_h.length := by rw [h.1]; exact (List.getElem?_eq_some_iff.mp hw).1
  have hc := List.getElem?_eq_getElem hlt
  generalize gi_h[q] = c at hc
  have hr := h.2 q c _ hc hw
  match c, hc, hr with
  | .inl (cj, gs), hc, ⟨vs', e, e2⟩ =>
    cases e
    have hk := List.getElem?_eq_getElem (show k < gs.length by rw [e2.1]; exact (List.getElem?_eq_some_iff.mp hx).1)
    rcases gi_obj hc hk with ⟨e3, -⟩ | e3
    · rw [e3] at hk
      exact e2.2 k none x hk hx
    · rw [e3] at hg
      cases hg
  | .inr (.inl (g, m, me, ex)), _, hr =>
    rcases hr with ⟨cB, F, e, -⟩ | ⟨cB, F, e, -⟩
    · cases e
    · cases e
  | .inr (.inr (ci, els)), _, ⟨cB, F, r, e, _⟩ => cases e
theorem wi1_f {hp : List rj_H} {K : rj_K} {w : va_W} {q a ci k : Nat} {vs : List Value} {x : Value} (hH : rj_hp U z K.1.length σ hp w) (hK : rj_sat σ K) (hw : w[q]? = some (a, .inr (ci, vs))) (hx : vs[k]? = some x) (h : rj_wi1 hp K (q, k + 1) = true) : rj_u ci k x := by
  unfold rj_wi1 at h
  dsimp only at h
  split at h
  · rename_i cj fs kk hq hk
    cases hk
    obtain ⟨vs', e, e2⟩ := hH.2 q _ _ hq hw
    cases e
    split at h
    · rename_i lg lo hi bt v hg hv
      rw [Bool.and_eq_true] at h
      have hgx : rj_g z K.1.length σ v x := e2.2 k _ x hv hx
      unfold rj_u
      rw [hg]
      match lg, v, h, hgx with
      | false, .inl f, ⟨_, h⟩, ⟨y, ey, hy⟩ =>
        have := wi_ok hK hy.1 h
        rw [hy.2] at this
        exact ⟨y, ey, this⟩
      | true, .inr (.inl f), ⟨_, h⟩, ⟨y, ey, hy⟩ =>
        have := wi_ok hK hy.1 h
        rw [hy.2] at this
        exact ⟨y, ey, this⟩
      | true, .inl _, ⟨h, _⟩, _ => cases h
      | false, .inr (.inl _), ⟨h, _⟩, _ => cases h
      | false, .inr (.inr _), ⟨h, _⟩, _ => cases h
      | true, .inr (.inr _), ⟨h, _⟩, _ => cases h
    · rename_i hv
      exact e2.2 k none x hv hx
    · cases h
  · rename_i hk
    cases hk
  · cases h
theorem wiL_ok {hp : List rj_H} {K : rj_K} {w w0 : va_W} {wr : rj_Wr} (hH : rj_hp U z K.1.length σ hp w) (hK : rj_sat σ K) (hun : rj_un w0 w wr) (hi : rj_inv U z w0) (h : rj_wiL hp K wr = true) : rj_inv U z w := by
  refine ⟨hi.1.trans hun.1.symm, fun q c p hc hw => ?_⟩
  have hlt : q < w0.length := by rw [← hun.1]; exact (List.getElem?_eq_some_iff.mp hw).1
  have hw0 := List.getElem?_eq_getElem hlt
  generalize w0[q] = p0 at hw0
  have h0 := hi.2 q c p0 hc hw0
  have h1 := hun.2 q p0 p hw0 hw
  obtain ⟨a0, e0⟩ := p0
  obtain ⟨a, e⟩ := p
  dsimp only at h0 h1 ⊢
  match c, hc, h0 with
  | .inl (ci, gs), hc, ⟨v0, ee, g1, g2⟩ =>
    subst ee
    match e, hw, h1 with
    | .inr (cj, v), hw, ⟨u1, u2, u3⟩ =>
      subst u1
      refine ⟨v, rfl, g1.trans u2.symm, fun k o x ho hx => ?_⟩
      by_cases hm : (q, k + 1) ∈ wr
      · have hwi := List.all_eq_true.mp h _ hm
        have hu := wi1_f hH hK hw hx hwi
        rcases gi_obj hc ho with ⟨e3, -⟩ | e3
        · rw [e3]; exact hu
        · unfold rj_u at hu
          rw [e3] at hu
          exact hu.elim
      · rw [u3 k hm] at hx
        exact g2 k o x ho hx
  | .inr (.inl (g, n, me, ex)), hc, h0 =>
    obtain ⟨e1, e2⟩ := gi_arr hc
    subst e1
    subst e2
    by_cases hm : (q, 0) ∈ wr
    · have hwi := List.all_eq_true.mp h _ hm
      unfold rj_wi1 at hwi
      dsimp only at hwi
      split at hwi
      · rename_i hk
        cases hk
      · rename_i g' n' me' ex' hq _
        have hex : q = 116 → ex' = [] := by
          intro h116
          subst h116
          exact List.isEmpty_iff.mp hwi
        rcases h0 with ⟨cA, f0, ee, b1, b2, b3⟩ | ⟨cA, f0, ee, b1, b2, b3⟩
        · subst ee
          match e, hw, h1 with
          | .inl (cB, m, .inl f), hw, ⟨u1, u2, u3, u4⟩ =>
            cases u1
            cases u2
            rcases hH.2 q _ _ hq hw with ⟨cC, F, e3, -, -, k1, -, -, k4⟩ | ⟨cC, F, e3, -⟩
            · cases e3
              exact Or.inl ⟨cA, f, rfl, b1, b2, k1, fun _ h => absurd h List.not_mem_nil, fun _ h => absurd h List.not_mem_nil, fun h116 j hj => by
                have := k4 h116 j hj
                rw [hex h116] at this
                rcases this with ⟨e, he, -⟩ | hp
                · exact absurd he List.not_mem_nil
                · exact Or.inr hp⟩
            · cases e3
          | .inl (cB, m, .inr (.inl f)), hw, ⟨u1, u2, u3, u4⟩ => cases u3
          | .inl (cB, m, .inr (.inr f)), hw, ⟨u1, u2, u3, u4⟩ => cases u3
        · subst ee
          match e, hw, h1 with
          | .inl (cB, m, .inr (.inl f)), hw, ⟨u1, u2, u3, u4⟩ =>
            cases u1
            cases u2
            rcases hH.2 q _ _ hq hw with ⟨cC, F, e3, -⟩ | ⟨cC, F, e3, -, -, k1, -, -, k4⟩
            · cases e3
            · cases e3
              exact Or.inr ⟨cA, f, rfl, b1, b2, k1, fun _ h => absurd h List.not_mem_nil, fun _ h => absurd h List.not_mem_nil, fun h116 j hj => by
                have := k4 h116 j hj
                rw [hex h116] at this
                rcases this with ⟨e, he, -⟩ | hp
                · exact absurd he List.not_mem_nil
                · exact Or.inr hp⟩
          | .inl (cB, m, .inl f), hw, ⟨u1, u2, u3, u4⟩ => cases u3
          | .inl (cB, m, .inr (.inr f)), hw, ⟨u1, u2, u3, u4⟩ => cases u3
      · cases hwi
    · rcases h0 with ⟨cA, f0, ee, b1⟩ | ⟨cA, f0, ee, b1⟩
      · subst ee
        match e, h1 with
        | .inl b, ⟨u1, u2, u3, u4⟩ => rw [u4 hm]; exact Or.inl ⟨cA, f0, rfl, b1⟩
      · subst ee
        match e, h1 with
        | .inl b, ⟨u1, u2, u3, u4⟩ => rw [u4 hm]; exact Or.inr ⟨cA, f0, rfl, b1⟩
  | .inr (.inr (ci, els)), hc, h0 =>
    obtain ⟨cA, f, r, ee, h2⟩ := h0
    subst ee
    match e, hw, h1 with
    | .inl b, hw, ⟨u1, u2, u3, u4⟩ =>
      have hm : (q, 0) ∉ wr := by
        intro hm
        have hwi := List.all_eq_true.mp h _ hm
        unfold rj_wi1 at hwi
        dsimp only at hwi
        split at hwi
        · rename_i hk
          cases hk
        · rename_i g' n' me' ex' hq _
          obtain ⟨cB, m, ct⟩ := b
          rcases hH.2 q _ _ hq hw with ⟨cC, F, e3, -⟩ | ⟨cC, F, e3, -⟩
          · cases e3
            cases u3
          · cases e3
            cases u3
        · cases hwi
      rw [u4 hm]
      exact ⟨cA, f, r, rfl, h2⟩
end WI
