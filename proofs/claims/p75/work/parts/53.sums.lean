/-! v2: summaries: what they say, how they are used -/
abbrev rj_Ag : Type := Nat ⊕ (Nat ⊕ (Bool × Int × Int × Nat))
abbrev rj_Rt : Type := Option (Nat ⊕ (Bool × Int × Int × Nat))
/-- method; arguments; facts ahead; what is written; answer; facts behind; old slots; splits; depth -/
abbrev rj_Sm : Type := Nat × List rj_Ag × List rj_Ft × rj_Wr × rj_Rt × List (List rj_Ft) × List (Nat × Nat × Nat) × List rj_L × Nat
def rj_a1 (z : rj_Z) (a : rj_Ag) (x : Value) : Prop := match a with
  | .inl q => ∃ ad, z.1[q]? = some ad ∧ x = .ref ad
  | .inr (.inl i) => x = .ref (z.2.2 i)
  | .inr (.inr (false, lo, hi, _)) => ∃ k : Int32, x = .int k ∧ lo ≤ k.toInt ∧ k.toInt ≤ hi
  | .inr (.inr (true, lo, hi, _)) => ∃ k : Int64, x = .long k ∧ lo ≤ k.toInt ∧ k.toInt ≤ hi
def rj_ar0 (vs : List Value) (i : Nat) : Int := match vs[i]? with
  | some x => rj_num x
  | none => 0
def rj_r1 (z : rj_Z) (r : rj_Rt) (rv : Option Value) : Prop := match r, rv with
  | none, none => True
  | some (.inl q), some x => ∃ ad, z.1[q]? = some ad ∧ x = .ref ad
  | some (.inr k), some x => rj_a1 z (.inr (.inr k)) x
  | _, _ => False
def rj_rn (rv : Option Value) : Int := match rv with
  | some x => rj_num x
  | none => 0
def rj_PS (S : rj_Sm) (D : va_G) (z : rj_Z) (ws : va_W) (sz : Nat) (vs : List Value) : Array Value → State → Prop := fun v U =>
  v = vs.toArray ∧ ws.map Prod.fst = z.1 ∧ ri_2 (rj_a1 z) S.2.1 vs ∧ U.heap.size = sz ∧ va_P D vwCl ws U.heap ∧ va_D (fun _ => True) ws ∧ va_K D vwCl [] U ∧ rj_inv U z ws ∧ (∀ F ∈ S.2.2.1, rj_fh (rj_sv (rj_ar0 vs) ws 0 [] ws) F) ∧ rj_St z (ri_A z.1 sz) U U.heap
def rj_QS (S : rj_Sm) (D : va_G) (z : rj_Z) (ws : va_W) (sz : Nat) (vs : List Value) : Array Value → State → Outcome → State → Prop := fun _ st oc t =>
  (∃ (rv : Option Value) (w1 : va_W), oc = .returned rv ∧ w1.map Prod.fst = z.1 ∧ rj_r1 z S.2.2.2.2.1 rv ∧ va_P D vwCl w1 t.heap ∧ va_D (ri_A z.1 sz) w1 ∧ rj_un ws w1 S.2.2.2.1 ∧ rj_inv t z w1 ∧ st.vm.Alike t.vm ∧ ∃ alt ∈ S.2.2.2.2.2.1, ∀ F ∈ alt, rj_fh (rj_sv (rj_ar0 vs) ws (rj_rn rv) [] w1) F) ∧ va_F (ri_A z.1 sz) st t
def rj_sm (l : Launch) (S : rj_Sm) : Prop := ∀ (y : MethodName) (cd : ByteArray) (o mx : Nat) (rt : Option FieldType) (n : Nat) (stt : Bool) (mc ms : Nat) (ct : ri_T) (ps : List Nat), ri_row S.1 = some (y, cd, o, mx, rt, n, stt, mc, ms, ct, ps) → ∀ (D : va_G) (z : rj_Z) (ws : va_W) (sz : Nat) (vs : List Value), Met l y (Cond.code y cd mx rt :: tb) (ri_rm S.2.2.2.2.2.2.2.2 0 0) (rj_PS S D z ws sz vs) (rj_QS S D z ws sz vs) 0 0 (ri_A z.1 sz)
def rj_rg (K : rj_K) (lo hi : Int) (f : rj_F) : Bool := decide (lo ≤ (rj_iv K.1 f).1) && decide ((rj_iv K.1 f).2 ≤ hi)
theorem rg_ok {K : rj_K} {σ : Nat → Int} {lo hi v : Int} {f : rj_F} (hK : rj_sat σ K) (hf : rj_n K.1.length σ f v) (h : rj_rg K lo hi f = true) : lo ≤ v ∧ v ≤ hi := by
  unfold rj_rg at h
  rw [Bool.and_eq_true, decide_eq_true_eq, decide_eq_true_eq] at h
  have hb := iv_ok hK.1 hf.1
  rw [hf.2] at hb
  omega
def rj_c1 (K : rj_K) (a : rj_Ag) (v : rj_V) : Bool := match a, v with
  | .inl q, .inr (.inr (.inl r)) => Nat.beq q r
  | .inr (.inl i), .inr (.inr (.inr (.inl k))) => Nat.beq i k
  | .inr (.inr (false, lo, hi, _)), .inl f => rj_rg K lo hi f
  | .inr (.inr (true, lo, hi, _)), .inr (.inl f) => rj_rg K lo hi f
  | _, _ => false
def rj_cA (K : rj_K) : List rj_Ag → List rj_V → Bool
  | [], [] => true
  | a :: r, v :: s => rj_c1 K a v && rj_cA K r s
  | _, _ => false
theorem cA1_ok {z : rj_Z} {K : rj_K} {σ : Nat → Int} {a : rj_Ag} {v : rj_V} {x : Value} (hK : rj_sat σ K) (hg : rj_g z K.1.length σ v x) (h : rj_c1 K a v = true) : rj_a1 z a x := by
  unfold rj_c1 at h
  split at h
  · have e := Nat.eq_of_beq_eq_true h
    subst e
    exact hg
  · have e := Nat.eq_of_beq_eq_true h
    subst e
    exact hg
  · obtain ⟨k, e, g⟩ := hg
    exact ⟨k, e, rg_ok hK g h⟩
  · obtain ⟨k, e, g⟩ := hg
    exact ⟨k, e, rg_ok hK g h⟩
  · cases h
theorem cA_ok {z : rj_Z} {K : rj_K} {σ : Nat → Int} (hK : rj_sat σ K) : ∀ {ags : List rj_Ag} {av : List rj_V} {vs : List Value}, ri_2 (rj_g z K.1.length σ) av vs → rj_cA K ags av = true → ri_2 (rj_a1 z) ags vs
  | [], [], [], _, _ => trivial
  | a :: ags, v :: av, x :: vs, h, hc => by
    unfold rj_cA at hc
    rw [Bool.and_eq_true] at hc
    exact ⟨cA1_ok hK h.1 hc.1, cA_ok hK h.2 hc.2⟩
  | [], [], _ :: _, h, _ => h.elim
  | _, _ :: _, [], h, _ => h.elim
  | [], _ :: _, _ :: _, _, hc => by cases hc
  | _ :: _, [], _, _, hc => by cases hc
def rj_af (v : rj_V) : rj_F := match v with
  | .inl f => f
  | .inr (.inl f) => f
  | _ => rj_k 0
theorem af_ok {z : rj_Z} {N : Nat} {σ : Nat → Int} {v : rj_V} {x : Value} (h : rj_g z N σ v x) : rj_n N σ (rj_af v) (rj_num x) := by
  match v, h with
  | .inl f, ⟨k, e, g⟩ => rw [e]; exact g
  | .inr (.inl f), ⟨k, e, g⟩ => rw [e]; exact g
  | .inr (.inr (.inl q)), ⟨a, _, e⟩ => rw [e]; exact ⟨wf_k, ev_k σ 0⟩
  | .inr (.inr (.inr (.inl i))), e => rw [show x = .ref (z.2.2 i) from e]; exact ⟨wf_k, ev_k σ 0⟩
  | .inr (.inr (.inr (.inr _))), e => rw [show x = .ref z.2.1 from e]; exact ⟨wf_k, ev_k σ 0⟩
theorem afs_ok {z : rj_Z} {N : Nat} {σ : Nat → Int} {av : List rj_V} {vs : List Value} (h : ri_2 (rj_g z N σ) av vs) : ∀ i f, (av.map rj_af)[i]? = some f → rj_n N σ f (rj_ar0 vs i) := by
  intro i f hf
  rw [List.getElem?_map] at hf
  cases hv : av[i]? with
  | none => rw [hv] at hf; cases hf
  | some v =>
    rw [hv] at hf
    cases hf
    obtain ⟨x, h1, h2⟩ := r2_get h hv
    unfold rj_ar0
    rw [h1]
    exact af_ok h2
/-- old slots are read -/
def rj_rdO (en : rj_En) : List (Nat × Nat × Nat) → List rj_H → rj_K → Option (List rj_H × rj_K × List ((Nat × Nat × Nat) × rj_F))
  | [], hp, K => some (hp, K, [])
  | (k, a, b) :: r, hp, K => match (match k with
      | 5 => rj_sf0 [] en hp K 1 a b
      | 6 => rj_sf0 [] en hp K 2 a b
      | _ => none) with
    | none => none
    | some (hp1, K1, f) => match rj_rdO en r hp1 K1 with
      | none => none
      | some (hp2, K2, os) => some (hp2, K2, ((k, a, b), f) :: os)
theorem rdO_ok {U : State} {z : rj_Z} {w w0 : va_W} {ar : Nat → Int} {rt : Int} {en : rj_En} : ∀ (r : List (Nat × Nat × Nat)) {σ : Nat → Int} {hp hp1 : List rj_H} {K K1 : rj_K} {os : List ((Nat × Nat × Nat) × rj_F)}, rj_hp U z K.1.length σ hp w → rj_sat σ K → rj_en K.1.length σ ar w0 rt en → rj_rdO en r hp K = some (hp1, K1, os) → ∃ τ, rj_up K K1 σ τ ∧ rj_hp U z K1.1.length τ hp1 w ∧ ∀ p ∈ os, (p.1.1 = 5 ∧ rj_n K1.1.length τ p.2 (rj_wfv w p.1.2.1 p.1.2.2)) ∨ (p.1.1 = 6 ∧ rj_n K1.1.length τ p.2 (rj_wev w p.1.2.1 p.1.2.2))
  | [], σ, hp, hp1, K, K1, os, hH, hK, he, h => by
    cases h
    exact ⟨σ, up_refl hK, hH, fun _ h => absurd h List.not_mem_nil⟩
  | (k, a, b) :: r, σ, hp, hp1, K, K1, os, hH, hK, he, h => by
    unfold rj_rdO at h
    split at h
    · cases h
    · rename_i hp2 K2 f hf
      split at h
      · cases h
      · rename_i hp3 K3 os1 ho
        cases h
        have key : ∃ τ, rj_up K K2 σ τ ∧ rj_hp U z K2.1.length τ hp2 w ∧ ((k = 5 ∧ rj_n K2.1.length τ f (rj_wfv w a b)) ∨ (k = 6 ∧ rj_n K2.1.length τ f (rj_wev w a b))) := by
          split at hf
          · obtain ⟨τ, u, g1, g2⟩ := sf0_ok (lo := []) (lv := []) hH hK trivial he hf
            exact ⟨τ, u, g1, Or.inl ⟨rfl, g2⟩⟩
          · obtain ⟨τ, u, g1, g2⟩ := sf0_ok (lo := []) (lv := []) hH hK trivial he hf
            exact ⟨τ, u, g1, Or.inr ⟨rfl, g2⟩⟩
          · cases hf
        obtain ⟨τ, u, g1, g2⟩ := key
        obtain ⟨τ2, u2, g3, g4⟩ := rdO_ok r g1 u.2.2 (en_ag u.2.1 u.1 he) ho
        refine ⟨τ2, up_trans u u2, g3, fun p hp => ?_⟩
        rcases List.mem_cons.mp hp with rfl | hp
        · rcases g2 with ⟨e, g⟩ | ⟨e, g⟩
          · exact Or.inl ⟨e, rn_ag u2.2.1 u2.1 g⟩
          · exact Or.inr ⟨e, rn_ag u2.2.1 u2.1 g⟩
        · exact g4 p hp
def rj_rv (K : rj_K) (r : rj_Rt) : rj_K × Option rj_V × rj_F := match r with
  | none => (K, none, rj_k 0)
  | some (.inl q) => (K, some (.inr (.inr (.inl q))), rj_k 0)
  | some (.inr (false, lo, hi, bt)) => match rj_nw K lo hi bt with
    | (K1, f) => (K1, some (.inl f), f)
  | some (.inr (true, lo, hi, bt)) => match rj_nw K lo hi bt with
    | (K1, f) => (K1, some (.inr (.inl f)), f)
theorem rv_ok {z : rj_Z} {K K1 : rj_K} {σ : Nat → Int} {r : rj_Rt} {rv : Option Value} {v : Option rj_V} {f : rj_F} (hK : rj_sat σ K) (hr : rj_r1 z r rv) (h : rj_rv K r = (K1, v, f)) : ∃ τ, rj_up K K1 σ τ ∧ rj_og z K1.1.length τ v rv ∧ rj_n K1.1.length τ f (rj_rn rv) := by
  match r, rv, hr with
  | none, none, _ =>
    cases h
    exact ⟨σ, up_refl hK, trivial, wf_k, ev_k σ 0⟩
  | some (.inl q), some x, ⟨ad, h1, h2⟩ =>
    cases h
    refine ⟨σ, up_refl hK, ⟨ad, h1, h2⟩, wf_k, ?_⟩
    rw [h2, ev_k]
    rfl
  | some (.inr (false, lo, hi, bt)), some x, ⟨k, ex, h1, h2⟩ =>
    cases hn : rj_nw K lo hi bt with
    | mk K2 g =>
      unfold rj_rv at h
      dsimp only at h
      rw [hn] at h
      cases h
      obtain ⟨τ, u, g1⟩ := nw_up hK h1 h2 hn
      exact ⟨τ, u, ⟨k, ex, g1⟩, by rw [ex]; exact g1⟩
  | some (.inr (true, lo, hi, bt)), some x, ⟨k, ex, h1, h2⟩ =>
    cases hn : rj_nw K lo hi bt with
    | mk K2 g =>
      unfold rj_rv at h
      dsimp only at h
      rw [hn] at h
      cases h
      obtain ⟨τ, u, g1⟩ := nw_up hK h1 h2 hn
      exact ⟨τ, u, ⟨k, ex, g1⟩, by rw [ex]; exact g1⟩
def rj_alts (en : rj_En) (hp : List rj_H) (K : rj_K) (v : Option rj_V) (wr : rj_Wr) : List (List rj_Ft) → Option (List rj_O)
  | [] => some []
  | alt :: r => match rj_asL [] en alt hp K with
    | none => none
    | some none => rj_alts en hp K v wr r
    | some (some (hp1, K1)) => match rj_alts en hp K v wr r with
      | none => none
      | some b => some ((v, hp1, K1, wr) :: b)
theorem alts_ok {U : State} {z : rj_Z} {w w0 : va_W} {ar : Nat → Int} {rt : Int} {en : rj_En} {σ : Nat → Int} {hp : List rj_H} {K : rj_K} {v : Option rj_V} {wr : rj_Wr} (hH : rj_hp U z K.1.length σ hp w) (hK : rj_sat σ K) (he : rj_en K.1.length σ ar w0 rt en) {alt : List rj_Ft} (hF : ∀ F ∈ alt, rj_fh (rj_sv ar w0 rt [] w) F) : ∀ {alts : List (List rj_Ft)} {outs : List rj_O}, alt ∈ alts → rj_alts en hp K v wr alts = some outs → ∃ hp1 K1 τ, (v, hp1, K1, wr) ∈ outs ∧ rj_up K K1 σ τ ∧ rj_hp U z K1.1.length τ hp1 w
  | [], _, hm, _ => absurd hm List.not_mem_nil
  | a :: r, outs, hm, h => by
    unfold rj_alts at h
    split at h
    · cases h
    · rename_i has
      rcases List.mem_cons.mp hm with rfl | hm
      · obtain ⟨hp1, K1, τ, eo, -⟩ := asL_ok (lo := []) (lv := []) _ hH hK trivial he hF has
        cases eo
      · exact alts_ok hH hK he hF hm h
    · rename_i hp1 K1 has
      split at h
      · cases h
      · rename_i b hb
        cases h
        rcases List.mem_cons.mp hm with rfl | hm
        · obtain ⟨hp2, K2, τ, eo, u, g⟩ := asL_ok (lo := []) (lv := []) _ hH hK trivial he hF has
          cases eo
          exact ⟨hp1, K1, τ, List.mem_cons_self, u, g⟩
        · obtain ⟨hp2, K2, τ, m1, u, g⟩ := alts_ok hH hK he hF hm hb
          exact ⟨hp2, K2, τ, List.mem_cons_of_mem _ m1, u, g⟩
def rj_sumc (S : rj_Sm) (av : List rj_V) (hp : List rj_H) (K : rj_K) (wr : rj_Wr) : Option (List rj_O) := match rj_cA K S.2.1 av && (rj_wiL hp K wr && (rj_chL [] (av.map rj_af, [], rj_k 0) hp K S.2.2.1 && S.2.2.2.1.all rj_wk)) with
  | false => none
  | true => match rj_rdO (av.map rj_af, [], rj_k 0) S.2.2.2.2.2.2.1 hp K with
    | none => none
    | some (hp1, K1, os) => match rj_rv K1 S.2.2.2.2.1 with
      | (K2, v, f) => rj_alts (av.map rj_af, os, f) (rj_hv hp1 S.2.2.2.1) K2 v (rj_unw wr S.2.2.2.1) S.2.2.2.2.2.1
/-- a call by a summary -/
theorem sumc_ok {l : Launch} {S : rj_Sm} {av : List rj_V} {hp : List rj_H} {K : rj_K} {wr : rj_Wr} {outs : List rj_O} {y : MethodName} {cd : ByteArray} {mx : Nat} {rt : Option FieldType} {rm : Room} {D : va_G} {z : rj_Z} {σ : Nat → Int} {w0 ws : va_W} {sz : Nat} {vs : List Value} (hM : Met l y (Cond.code y cd mx rt :: tb) rm (rj_PS S D z ws sz vs) (rj_QS S D z ws sz vs) 0 0 (ri_A z.1 sz)) (h : rj_sumc S av hp K wr = some outs) : Met l y (Cond.code y cd mx rt :: tb) rm (rj_Pc D z σ w0 ws sz vs av hp K wr) (rj_Qc D z K.1.length σ w0 sz outs) 0 0 (ri_A z.1 sz) := by
  unfold rj_sumc at h
  split at h
  · cases h
  · rename_i hk
    rw [Bool.and_eq_true, Bool.and_eq_true, Bool.and_eq_true] at hk
    obtain ⟨k1, k2, k3, k4⟩ := hk
    split at h
    · cases h
    · rename_i hp1 K1 os hos
      cases hrv : rj_rv K1 S.2.2.2.2.1 with
      | mk K2 vf =>
        obtain ⟨v, f⟩ := vf
        rw [hrv] at h
        dsimp only at h
        refine met_imp hM ?_ ?_
        · intro a U hP
          obtain ⟨h1, h2, h3, h4, h5, h6, h7, h8, h9, h10, h11, h12⟩ := hP
          have he : rj_en K.1.length σ (rj_ar0 vs) ws 0 (av.map rj_af, [], rj_k 0) := ⟨afs_ok h3, fun _ h => absurd h List.not_mem_nil, wf_k, ev_k σ 0⟩
          exact ⟨h1, h2, cA_ok h9 h3 k1, h4, h6, h7, h8, wiL_ok h5 h9 h10 h11 k2, chL_ok (lo := []) (lv := []) h5 h9 trivial he k3, h12⟩
        · intro a st oc t hP hQ
          obtain ⟨h1, h2, h3, h4, h5, h6, h7, h8, h9, h10, h11, h12⟩ := hP
          obtain ⟨⟨rv, w1, q1, q2, q3, q4, q5, q6, q7, q8, alt, q9, q10⟩, hF⟩ := hQ
          have he : rj_en K.1.length σ (rj_ar0 vs) ws 0 (av.map rj_af, [], rj_k 0) := ⟨afs_ok h3, fun _ h => absurd h List.not_mem_nil, wf_k, ev_k σ 0⟩
          obtain ⟨τ1, u1, g1, g2⟩ := rdO_ok _ h5 h9 he hos
          have hwk : ∀ x ∈ S.2.2.2.1, rj_wk x = true := fun x hx => List.all_eq_true.mp k4 x hx
          have hH1 := hvL_ok q7 S.2.2.2.1 (hB_un (hp_moved q8 g1) q6 q7 hwk) (fun x hx => hx)
          obtain ⟨τ2, u2, g3, g4⟩ := rv_ok u1.2.2 q3 hrv
          have u12 := up_trans u1 u2
          have he2 : rj_en K2.1.length τ2 (rj_ar0 vs) ws (rj_rn rv) (av.map rj_af, os, f) := ⟨fun i g hg => rn_ag u12.2.1 u12.1 (afs_ok h3 i g hg), fun p hp => by
            rcases g2 p hp with ⟨e, g⟩ | ⟨e, g⟩
            · exact Or.inl ⟨e, rn_ag u2.2.1 u2.1 g⟩
            · exact Or.inr ⟨e, rn_ag u2.2.1 u2.1 g⟩, g4⟩
          obtain ⟨hp4, K4, τ4, m1, u4, g5⟩ := alts_ok (hp_ag u2.2.1 u2.1 hH1) u2.2.2 he2 q10 q9 h
          have u := up_trans u12 u4
          have x1 := unw_ok S.2.2.2.1 wr
          refine ⟨⟨_, m1, rv, w1, τ4, q1, q2, u.1, u.2.1, u.2.2, ?_, g5, q4, q5, un_trans h10 q6 x1.1 x1.2⟩, hF⟩
          match v, rv, g3 with
          | none, none, _ => trivial
          | some v, some x, g3 => exact jg_ag u4.2.1 u4.1 g3
