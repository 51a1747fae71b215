/-! v2: calls, inlined or by a summary; the check of a summary -/
abbrev rj_Nt : Type := Nat → Nat → rj_S → Option (List rj_S)
def rj_natok (l : Launch) (nat : rj_Nt) : Prop := ∀ (p : Program) (e : Env) (R : Room) (s : State) (m : MethodId) (args : Array Value) (below : List Frame) (meth : Method) (c : Code) (D : va_G) (A : Nat → Prop) (H0 : Heap) (z : rj_Z) (nL : Nat) (cc : ByteArray) (o : Nat), rj_Xc p R s m args c D A H0 z nL cc o 0 0 → 6 ≤ R.frames → 384 ≤ R.locals → rj_nok p l e R s m args below meth c D A H0 z nL 0 0 cc (nat o)
def rj_nt (nat : rj_Nt) (d o : Nat) : Nat → rj_S → Option (List rj_S) := match Nat.ble 5 d with
  | true => nat o
  | false => fun _ _ => none
def rj_nl (K : rj_K) (lo : List (Nat × rj_V)) : List (Nat × rj_V) := lo.map (fun q => (q.1, rj_nV K.1 q.2))
theorem nl_ok {z : rj_Z} {K : rj_K} {σ : Nat → Int} (hK : rj_sat σ K) : ∀ {lo : List (Nat × rj_V)} {lv : List (Nat × Value)}, rj_lo z K.1.length σ lo lv → rj_lo z K.1.length σ (rj_nl K lo) lv
  | [], [], _ => trivial
  | _ :: _, _ :: _, h => ⟨⟨h.1.1, nV_ok hK h.1.2⟩, nl_ok hK h.2⟩
  | [], _ :: _, h => h.elim
  | _ :: _, [], h => h.elim
def rj_en0 : rj_En := ([], [], rj_k 0)
def rj_inl (ct : ri_T) (o mx : Nat) (rt : Option FieldType) (lps : List rj_Lp) (spl : List rj_L) (call : rj_Ca) (nat : Nat → rj_S → Option (List rj_S)) (av : List rj_V) (hp : List rj_H) (K : rj_K) (wr : rj_Wr) : Option (List rj_O) := match Nat.ble (rj_w av) mx with
  | false => none
  | true => match rj_spL (rj_args 0 av) rj_en0 spl [(hp, K)] with
    | none => none
    | some ks => match rj_all (rj_run ct rj_en0 lps (rj_step ct o none mx call nat) 100000 none) (ks.map (fun k => (0, rj_nl k.2 (rj_args 0 av), [], k.1, k.2, wr))) with
      | none => none
      | some sts => rj_outs ct rt sts
def rj_fsm : List rj_Sm → Nat → Nat → rj_K → List rj_V → Option rj_Sm
  | [], _, _, _, _ => none
  | S :: r, d, j, K, av => match Nat.beq S.1 j && (Nat.ble S.2.2.2.2.2.2.2.2 d && rj_cA K S.2.1 av) with
    | true => some S
    | false => rj_fsm r d j K av
theorem fsm_ok : ∀ {sms : List rj_Sm} {d j : Nat} {K : rj_K} {av : List rj_V} {S : rj_Sm}, rj_fsm sms d j K av = some S → S ∈ sms ∧ S.1 = j ∧ S.2.2.2.2.2.2.2.2 ≤ d
  | [], _, _, _, _, _, h => by cases h
  | T :: r, d, j, K, av, S, h => by
    unfold rj_fsm at h
    split at h
    · rename_i hk
      cases h
      rw [Bool.and_eq_true, Bool.and_eq_true] at hk
      exact ⟨List.mem_cons_self, Nat.eq_of_beq_eq_true hk.1, Nat.le_of_ble_eq_true hk.2.1⟩
    · obtain ⟨h1, h2⟩ := fsm_ok h
      exact ⟨List.mem_cons_of_mem _ h1, h2⟩
def rj_callT (lpf : Nat → List rj_Lp) (spf : Nat → List rj_L) (sms : List rj_Sm) (nat : rj_Nt) : Nat → rj_Ca
  | 0, _, _, _, _, _ => none
  | d + 1, j, av0, hp, K, wr => match av0.map (rj_nV K.1) with
    | av => match rj_fsm sms (d + 1) j K av with
      | some S => rj_sumc S av hp K wr
      | none => match ri_row j with
        | none => none
        | some (_, _, o, mx, rt, _, _, _, _, ct, _) => rj_inl ct o mx rt (lpf j) (spf j) (rj_callT lpf spf sms nat d) (rj_nt nat d o) av hp K wr
theorem en0_ok {N : Nat} {σ : Nat → Int} : rj_en N σ (fun _ => 0) [] 0 rj_en0 := ⟨fun i f h => by simp [rj_en0] at h, fun _ h => absurd h List.not_mem_nil, wf_k, ev_k σ 0⟩
section RT11
variable {p : Program} {l : Launch} {e : Env} {s : State} {m : MethodId} {below : List Frame} {meth : Method} {c : Code} {D : va_G} {z : rj_Z} {d : Nat} {y : MethodName} {cd : ByteArray} {o mx : Nat} {rt : Option FieldType} {n : Nat} {stt : Bool} {mc ms : Nat} {ct : ri_T} {ps : List Nat} {j : Nat}
theorem nt_ok {nat : rj_Nt} {vs : List Value} (hnat : rj_natok l nat) (X : rj_Xc p (ri_rm (d + 1) 0 0) s m vs.toArray c D (ri_A z.1 s.heap.size) s.heap z mx cd o 0 0) : rj_nok p l e (ri_rm (d + 1) 0 0) s m vs.toArray below meth c D (ri_A z.1 s.heap.size) s.heap z mx 0 0 cd (rj_nt nat d o) := by
  unfold rj_nt
  split
  · rename_i hd
    have hd := Nat.le_of_ble_eq_true hd
    exact hnat _ _ _ _ _ _ _ _ _ _ _ _ _ _ _ _ X (by show 6 ≤ d + 1; omega) (by show 384 ≤ 64 * (d + 1); omega)
  · intro Q N0 σ0 w0 idx st sts _ h
    cases h
theorem mk_X {vs : List Value} {s₁ : State} (hrow : ri_row j = some (y, cd, o, mx, rt, n, stt, mc, ms, ct, ps)) (B : BodyLoose p l y (headSpec (Cond.code y cd mx rt :: tb) (ri_rm (d + 1) 0 0)) cd mx rt e s m vs.toArray below meth c s₁) (hml : c.maxLocals = mx) (hK : va_K D vwCl [] s) (hSt : rj_St z (ri_A z.1 s.heap.size) s s.heap) : rj_Xc p (ri_rm (d + 1) 0 0) s m vs.toArray c D (ri_A z.1 s.heap.size) s.heap z mx cd o 0 0 := by
  obtain ⟨w1, w2, w3, w4, w5, w6, w7, w8, w9, w10, w11, w12⟩ := row_facts hrow
  have hts := atoms_spec (ws := Cond.code y cd mx rt :: tb) B.pre
  refine ⟨B.exec, B.bytes, hml, ?_, fun w hw => hts w (List.mem_cons_of_mem _ hw), hK, fun q hq => Or.inr hq, hSt, ⟨Nat.zero_le _, Nat.zero_le _⟩, ?_, ?_⟩
  · rw [w9]
    exact findClass_of_methodNamed B.named
  · show 1 ≤ d + 1
    omega
  · show 64 ≤ 64 * (d + 1)
    omega
theorem inl_ok {lps : List rj_Lp} {spl : List rj_L} {call : rj_Ca} {nat : rj_Nt} {av : List rj_V} {hp : List rj_H} {K : rj_K} {wr : rj_Wr} {outs : List rj_O} {σ : Nat → Int} {w0 ws : va_W} {sz : Nat} {vs : List Value} (hrow : ri_row j = some (y, cd, o, mx, rt, n, stt, mc, ms, ct, ps)) (hg : rj_good l d call) (hnat : rj_natok l nat) (h : rj_inl ct o mx rt lps spl call (rj_nt nat d o) av hp K wr = some outs) : Met l y (Cond.code y cd mx rt :: tb) (ri_rm (d + 1) 0 0) (rj_Pc D z σ w0 ws sz vs av hp K wr) (rj_Qc D z K.1.length σ w0 sz outs) 0 0 (ri_A z.1 sz) := by
  unfold rj_inl at h
  split at h
  · cases h
  · rename_i hw
    have hw := Nat.le_of_ble_eq_true hw
    split at h
    · cases h
    · rename_i ks hks
      split at h
      · cases h
      · rename_i sts hrun
        obtain ⟨w1, w2, w3, w4, w5, w6, w7, w8, w9, w10, w11, w12⟩ := row_facts hrow
        refine Met.ofW (cc := cd) (maxL := mx) (ret := rt) w5 rfl ?_
        intro p e s m args below meth c s₁ B hml hP
        obtain ⟨rfl, q2, q3, rfl, q5, q6, q7, q8, q9, q10, q11, q12⟩ := hP
        have X := mk_X hrow B hml q8 q12
        have hD : va_D (ri_A z.1 s.heap.size) ws := ⟨q7.1, fun k q hk => Or.inl (by rw [← q2]; exact List.mem_map.mpr ⟨q, List.mem_of_getElem? hk, rfl⟩)⟩
        have hlo := jargs_ok 0 q3
        obtain ⟨k, hk, τ, u, g⟩ := spL_ok spl (lv := lv_args 0 vs) (List.mem_singleton.mpr rfl) q5 q9 hlo en0_ok hks
        obtain ⟨a, ha, hsub⟩ := jall_sub hrun _ (List.mem_map.mpr ⟨k, hk, rfl⟩)
        rw [lg_entry_eq]
        exact to_run (sc := none) X (d := d) (Nat.le_refl _) (Nat.le_refl _) hg (nt_ok hnat X) w11 100000 none _ a K.1.length σ w0 q11 en0_ok trivial ha (fun t ht => by
          obtain ⟨x, hx1, hx2⟩ := jouts_sub h t (hsub t ht)
          exact to_out X w11 B.returns B.notSynchronized (fun rv ws' τ' T hW a1 a2 a3 a4 a5 a6 a7 a8 a9 a10 => ⟨⟨x, hx2, rv, ws', τ', rfl, a1, a2, a3, a4, a5, hp_moved hW.alike a6, a7, a8, a9⟩, a10⟩) hx1) _ _ _ _ ⟨τ, ws, lv_args 0 vs, ⟨q2, q6, hD, ⟨Nat.le_refl _, fun _ _ _ => rfl, fun _ h => absurd h List.not_mem_nil⟩, q10, u.1, u.2.1, u.2.2⟩, lv_entry vs (by rw [jargs_len q3]; exact hw), nl_ok u.2.2 (lo_ag u.2.1 u.1 hlo), trivial, g⟩
end RT11
theorem callT_ok {l : Launch} {lpf : Nat → List rj_Lp} {spf : Nat → List rj_L} {sms : List rj_Sm} {nat : rj_Nt} (hS : ∀ S ∈ sms, rj_sm l S) (hnat : rj_natok l nat) : ∀ d, rj_good l d (rj_callT lpf spf sms nat d)
  | 0 => by
    intro j av hp K wr outs y cd o mx rt n stt mc ms ct ps hrow hcall
    cases hcall
  | d + 1 => by
    intro j av0 hp K wr outs y cd o mx rt n stt mc ms ct ps hrow hcall
    unfold rj_callT at hcall
    dsimp only at hcall
    have conv : ∀ {rm : Room} {D : va_G} {z : rj_Z} {σ : Nat → Int} {w0 ws : va_W} {sz : Nat} {vs : List Value}, Met l y (Cond.code y cd mx rt :: tb) rm (rj_Pc D z σ w0 ws sz vs (av0.map (rj_nV K.1)) hp K wr) (rj_Qc D z K.1.length σ w0 sz outs) 0 0 (ri_A z.1 sz) → Met l y (Cond.code y cd mx rt :: tb) rm (rj_Pc D z σ w0 ws sz vs av0 hp K wr) (rj_Qc D z K.1.length σ w0 sz outs) 0 0 (ri_A z.1 sz) := fun hM => met_imp hM (fun a U hP => by
      obtain ⟨h1, h2, h3, h4, h5, h6, h7, h8, h9, h10⟩ := hP
      exact ⟨h1, h2, nVs_ok h9 h3, h4, h5, h6, h7, h8, h9, h10⟩) (fun _ _ _ _ _ hQ => hQ)
    split at hcall
    · rename_i S hf
      obtain ⟨m1, m2, m3⟩ := fsm_ok hf
      refine ⟨S.2.2.2.2.2.2.2.2, m3, fun D z σ w0 ws sz vs => conv ?_⟩
      have hM := hS S m1
      unfold rj_sm at hM
      rw [m2] at hM
      exact sumc_ok (hM y cd o mx rt n stt mc ms ct ps hrow D z ws sz vs) hcall
    · rw [hrow] at hcall
      dsimp only at hcall
      exact ⟨d + 1, Nat.le_refl _, fun D z σ w0 ws sz vs => conv (inl_ok hrow (callT_ok hS hnat d) hnat hcall)⟩
/-- the arguments of a summary: new names -/
def rj_as0 : rj_K → List rj_Ag → rj_K × List rj_V
  | K, [] => (K, [])
  | K, .inl q :: r => match rj_as0 K r with
    | (K1, t) => (K1, .inr (.inr (.inl q)) :: t)
  | K, .inr (.inl i) :: r => match rj_as0 K r with
    | (K1, t) => (K1, .inr (.inr (.inr (.inl i))) :: t)
  | K, .inr (.inr (false, lo, hi, bt)) :: r => match rj_nw K lo hi bt with
    | (K0, f) => match rj_as0 K0 r with
      | (K1, t) => (K1, .inl f :: t)
  | K, .inr (.inr (true, lo, hi, bt)) :: r => match rj_nw K lo hi bt with
    | (K0, f) => match rj_as0 K0 r with
      | (K1, t) => (K1, .inr (.inl f) :: t)
theorem as0_ok {z : rj_Z} : ∀ {ags : List rj_Ag} {vs : List Value} {K K1 : rj_K} {σ : Nat → Int} {av : List rj_V}, rj_sat σ K → ri_2 (rj_a1 z) ags vs → rj_as0 K ags = (K1, av) → ∃ τ, rj_up K K1 σ τ ∧ ri_2 (rj_g z K1.1.length τ) av vs
  | [], [], K, K1, σ, av, hK, _, h => by
    cases h
    exact ⟨σ, up_refl hK, trivial⟩
  | .inl q :: r, x :: vs, K, K1, σ, av, hK, ha, h => by
    cases hr : rj_as0 K r with
    | mk K2 t =>
      unfold rj_as0 at h
      rw [hr] at h
      cases h
      obtain ⟨τ, u, g⟩ := as0_ok hK ha.2 hr
      exact ⟨τ, u, ha.1, g⟩
  | .inr (.inl i) :: r, x :: vs, K, K1, σ, av, hK, ha, h => by
    cases hr : rj_as0 K r with
    | mk K2 t =>
      unfold rj_as0 at h
      rw [hr] at h
      cases h
      obtain ⟨τ, u, g⟩ := as0_ok hK ha.2 hr
      exact ⟨τ, u, ha.1, g⟩
  | .inr (.inr (false, lo, hi, bt)) :: r, x :: vs, K, K1, σ, av, hK, ha, h => by
    cases hn : rj_nw K lo hi bt with
    | mk K0 f =>
      cases hr : rj_as0 K0 r with
      | mk K2 t =>
        unfold rj_as0 at h
        rw [hn] at h
        dsimp only at h
        rw [hr] at h
        cases h
        obtain ⟨⟨k, ex, h1, h2⟩, ha2⟩ := ha
        obtain ⟨τ, u, g⟩ := nw_up hK h1 h2 hn
        obtain ⟨τ2, u2, g2⟩ := as0_ok u.2.2 ha2 hr
        exact ⟨τ2, up_trans u u2, ⟨k, ex, rn_ag u2.2.1 u2.1 g⟩, g2⟩
  | .inr (.inr (true, lo, hi, bt)) :: r, x :: vs, K, K1, σ, av, hK, ha, h => by
    cases hn : rj_nw K lo hi bt with
    | mk K0 f =>
      cases hr : rj_as0 K0 r with
      | mk K2 t =>
        unfold rj_as0 at h
        rw [hn] at h
        dsimp only at h
        rw [hr] at h
        cases h
        obtain ⟨⟨k, ex, h1, h2⟩, ha2⟩ := ha
        obtain ⟨τ, u, g⟩ := nw_up hK h1 h2 hn
        obtain ⟨τ2, u2, g2⟩ := as0_ok u.2.2 ha2 hr
        exact ⟨τ2, up_trans u u2, ⟨k, ex, rn_ag u2.2.1 u2.1 g⟩, g2⟩
  | [], _ :: _, _, _, _, _, _, h, _ => h.elim
  | _ :: _, [], _, _, _, _, _, h, _ => h.elim
def rj_rok (K : rj_K) (r : rj_Rt) (v : Option rj_V) : Bool := match r, v with
  | none, none => true
  | some (.inl q), some (.inr (.inr (.inl k))) => Nat.beq q k
  | some (.inr (false, lo, hi, _)), some (.inl f) => rj_rg K lo hi f
  | some (.inr (true, lo, hi, _)), some (.inr (.inl f)) => rj_rg K lo hi f
  | _, _ => false
theorem rok_ok {z : rj_Z} {K : rj_K} {σ : Nat → Int} {r : rj_Rt} {v : Option rj_V} {rv : Option Value} (hK : rj_sat σ K) (hg : rj_og z K.1.length σ v rv) (h : rj_rok K r v = true) : rj_r1 z r rv := by
  unfold rj_rok at h
  split at h
  · match rv, hg with
    | none, _ => trivial
  · have e := Nat.eq_of_beq_eq_true h
    subst e
    match rv, hg with
    | some x, hg => exact hg
  · match rv, hg with
    | some x, ⟨k, e, g⟩ => exact ⟨k, e, rg_ok hK g h⟩
  · match rv, hg with
    | some x, ⟨k, e, g⟩ => exact ⟨k, e, rg_ok hK g h⟩
  · cases h
def rj_rf (v : Option rj_V) : rj_F := match v with
  | some v => rj_af v
  | none => rj_k 0
theorem rf_ok {z : rj_Z} {N : Nat} {σ : Nat → Int} {v : Option rj_V} {rv : Option Value} (hg : rj_og z N σ v rv) : rj_n N σ (rj_rf v) (rj_rn rv) := by
  match v, rv, hg with
  | none, none, _ => exact ⟨wf_k, ev_k σ 0⟩
  | some v, some x, hg => exact af_ok hg
def rj_end (S : rj_Sm) (en : rj_En) (x : rj_O) : Bool := rj_subW x.2.2.2 S.2.2.2.1 && (rj_wiL x.2.1 x.2.2.1 x.2.2.2 && (rj_rok x.2.2.1 S.2.2.2.2.1 x.1 && S.2.2.2.2.2.1.any (fun alt => rj_chL [] (en.1, en.2.1, rj_rf x.1) x.2.1 x.2.2.1 alt)))
/-- the starts of a summary's check -/
def rj_beg (S : rj_Sm) : Option (rj_En × List rj_V × List (List rj_H × rj_K)) := match rj_as0 ([], []) S.2.1 with
  | (K1, av) => match rj_rdO (av.map rj_af, [], rj_k 0) S.2.2.2.2.2.2.1 gi_h K1 with
    | none => none
    | some (hp2, K2, os) => match rj_asL [] (av.map rj_af, os, rj_k 0) S.2.2.1 hp2 K2 with
      | none => none
      | some none => some ((av.map rj_af, os, rj_k 0), av, [])
      | some (some (hp3, K3)) => match rj_spL [] (av.map rj_af, os, rj_k 0) S.2.2.2.2.2.2.2.1 [(hp3, K3)] with
        | none => none
        | some ks => some ((av.map rj_af, os, rj_k 0), av, ks)
def rj_fin (S : rj_Sm) (ct : ri_T) (rt : Option FieldType) (en : rj_En) (o : Option (List rj_S)) : Bool := match o with
  | none => false
  | some sts => match rj_outs ct rt sts with
    | none => false
    | some outs => outs.all (rj_end S en)
/-- one start is run to its ends -/
def rj_go1 (S : rj_Sm) (ct : ri_T) (o mx : Nat) (rt : Option FieldType) (lps : List rj_Lp) (call : rj_Ca) (nat : Nat → rj_S → Option (List rj_S)) (en : rj_En) (av : List rj_V) (k : List rj_H × rj_K) : Bool := rj_fin S ct rt en (rj_run ct en lps (rj_step ct o none mx call nat) 100000 none (0, rj_nl k.2 (rj_args 0 av), [], k.1, k.2, []))
def rj_chk (S : rj_Sm) (ct : ri_T) (o mx : Nat) (rt : Option FieldType) (lps : List rj_Lp) (call : rj_Ca) (nat : Nat → rj_S → Option (List rj_S)) : Bool := match rj_beg S with
  | none => false
  | some (en, av, ks) => Nat.ble (rj_w av) mx && ks.all (rj_go1 S ct o mx rt lps call nat en av)
theorem beg_ok {S : rj_Sm} {en : rj_En} {av : List rj_V} {ks : List (List rj_H × rj_K)} {U : State} {z : rj_Z} {ws : va_W} {vs : List Value} (hi : rj_inv U z ws) (ha : ri_2 (rj_a1 z) S.2.1 vs) (hF : ∀ F ∈ S.2.2.1, rj_fh (rj_sv (rj_ar0 vs) ws 0 [] ws) F) (h : rj_beg S = some (en, av, ks)) : ∃ k ∈ ks, ∃ τ, rj_sat τ k.2 ∧ rj_hp U z k.2.1.length τ k.1 ws ∧ ri_2 (rj_g z k.2.1.length τ) av vs ∧ rj_en k.2.1.length τ (rj_ar0 vs) ws 0 en := by
  unfold rj_beg at h
  cases h0 : rj_as0 ([], []) S.2.1 with
  | mk K1 av1 =>
    rw [h0] at h
    dsimp only at h
    have hK0 : rj_sat (fun _ => 0) (([], []) : rj_K) := ⟨fun n x hx => by simp at hx, fun _ h => absurd h List.not_mem_nil⟩
    obtain ⟨τ1, u1, g1⟩ := as0_ok hK0 ha h0
    split at h
    · cases h
    · rename_i hp2 K2 os hos
      have he : rj_en K1.1.length τ1 (rj_ar0 vs) ws 0 (av1.map rj_af, [], rj_k 0) := ⟨afs_ok g1, fun _ h => absurd h List.not_mem_nil, wf_k, ev_k _ 0⟩
      obtain ⟨τ2, u2, g2, g3⟩ := rdO_ok _ (hp_ag u1.2.1 u1.1 hi) u1.2.2 he hos
      have he2 : rj_en K2.1.length τ2 (rj_ar0 vs) ws 0 (av1.map rj_af, os, rj_k 0) := ⟨fun i f hf => rn_ag u2.2.1 u2.1 (afs_ok g1 i f hf), g3, wf_k, ev_k _ 0⟩
      have g1' := sk_ag u2.2.1 u2.1 g1
      split at h
      · cases h
      · rename_i has
        obtain ⟨hp3, K3, τ3, eo, -⟩ := asL_ok (lo := []) (lv := []) _ g2 u2.2.2 trivial he2 hF has
        cases eo
      · rename_i hp3 K3 has
        obtain ⟨hp4, K4, τ3, eo, u3, g4⟩ := asL_ok (lo := []) (lv := []) _ g2 u2.2.2 trivial he2 hF has
        cases eo
        split at h
        · cases h
        · rename_i ks1 hks
          cases h
          obtain ⟨k, hk, τ4, u4, g5⟩ := spL_ok (lo := []) (lv := []) _ (List.mem_singleton.mpr rfl) g4 u3.2.2 trivial (en_ag u3.2.1 u3.1 he2) hks
          have u34 := up_trans u3 u4
          exact ⟨k, hk, τ4, u4.2.2, g5, sk_ag u34.2.1 u34.1 g1', en_ag u34.2.1 u34.1 he2⟩
/-- what is checked holds -/
theorem chk_ok {l : Launch} {S : rj_Sm} {d : Nat} {call : rj_Ca} {nat : rj_Nt} {lps : List rj_Lp} {en : rj_En} {av : List rj_V} {ks : List (List rj_H × rj_K)} {j : Nat} {y : MethodName} {cd : ByteArray} {o mx : Nat} {rt : Option FieldType} {n : Nat} {stt : Bool} {mc ms : Nat} {ct : ri_T} {ps : List Nat} (hrow : ri_row S.1 = some (y, cd, o, mx, rt, n, stt, mc, ms, ct, ps)) (hd : S.2.2.2.2.2.2.2.2 = d + 1) (hg : rj_good l d call) (hnat : rj_natok l nat) (hbeg : rj_beg S = some (en, av, ks)) (hw : Nat.ble (rj_w av) mx = true) (h : ∀ k ∈ ks, rj_go1 S ct o mx rt lps call (rj_nt nat d o) en av k = true) : rj_sm l S := by
  intro y' cd' o' mx' rt' n' stt' mc' ms' ct' ps' hrow' D z ws sz vs
  rw [hrow] at hrow'
  cases hrow'
  rw [hd]
  have hw := Nat.le_of_ble_eq_true hw
  obtain ⟨w1, w2, w3, w4, w5, w6, w7, w8, w9, w10, w11, w12⟩ := row_facts hrow
  refine Met.ofW (cc := cd) (maxL := mx) (ret := rt) w5 rfl ?_
  intro p e s m args below meth c s₁ B hml hP
  obtain ⟨rfl, q2, q3, rfl, q5, q6, q7, q8, q9, q10⟩ := hP
  have X := mk_X hrow B hml q7 q10
  have hD : va_D (ri_A z.1 s.heap.size) ws := ⟨q6.1, fun k q hk => Or.inl (by rw [← q2]; exact List.mem_map.mpr ⟨q, List.mem_of_getElem? hk, rfl⟩)⟩
  obtain ⟨k, hk, τ, g1, g2, g3, g4⟩ := beg_ok q8 q3 q9 hbeg
  have hrun := h k hk
  unfold rj_go1 rj_fin at hrun
  split at hrun
  · cases hrun
  · rename_i sts hr
    split at hrun
    · cases hrun
    · rename_i outs ho
      have hlo := jargs_ok 0 g3
      rw [lg_entry_eq]
      exact to_run (sc := none) X (d := d) (Nat.le_refl _) (Nat.le_refl _) hg (nt_ok hnat X) w11 100000 none _ sts k.2.1.length τ ws q8 g4 trivial hr (fun t ht => by
        obtain ⟨x, hx1, hx2⟩ := jouts_sub ho t ht
        have hend := List.all_eq_true.mp hrun x hx2
        unfold rj_end at hend
        rw [Bool.and_eq_true, Bool.and_eq_true, Bool.and_eq_true] at hend
        obtain ⟨e1, e2, e3, e4⟩ := hend
        obtain ⟨alt, e5, e6⟩ := List.any_eq_true.mp e4
        exact to_out X w11 B.returns B.notSynchronized (fun rv ws' τ' T hW a1 a2 a3 a4 a5 a6 a7 a8 a9 a10 => by
          have inv1 := wiL_ok a6 a4 a9 q8 e2
          have en1 := en_ag a3 a2 g4
          refine ⟨⟨rv, ws', rfl, a1, rok_ok a4 a5 e3, a7, a8, ⟨a9.1, fun q p0 p1 h0 h1 => ?_⟩, inv_moved hW.alike inv1, hW.alike, alt, e5, ?_⟩, a10⟩
          · exact un1_trans (un1_refl q [] p0.2) (a9.2 q p0 p1 h0 h1) (fun _ h => absurd h List.not_mem_nil) (subW_ok e1)
          · exact chL_ok (lo := []) (lv := []) (en := (en.1, en.2.1, rj_rf x.1)) a6 a4 trivial ⟨en1.1, en1.2.1, rf_ok a5⟩ e6) hx1) _ _ _ _ ⟨τ, ws, lv_args 0 vs, ⟨q2, q5, hD, ⟨Nat.le_refl _, fun _ _ _ => rfl, fun _ h => absurd h List.not_mem_nil⟩, un_refl ws [], fun _ _ => rfl, Nat.le_refl _, g1⟩, lv_entry vs (by rw [jargs_len g3]; exact hw), nl_ok g1 hlo, trivial, g2⟩
