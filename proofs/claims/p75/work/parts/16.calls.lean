/-! calls: what goes in, what comes back -/
def ri_A (as : List Nat) (sz : Nat) : Nat → Prop := fun q => q ∈ as ∨ sz ≤ q
def ri_Pc (D : va_G) (as : List Nat) (σ : Nat → Int) (b sz : Nat) (av : List ri_V) (hp : List ri_C) (E : ri_E) : Array Value → State → Prop := fun v U =>
  ∃ (vs : List Value) (ws : va_W), v = vs.toArray ∧ ws.map Prod.fst = as ∧ ri_2 (ri_g as σ b) av vs ∧ U.heap.size = sz ∧ ri_hp U as σ b hp ws ∧ va_P D vwCl ws U.heap ∧ va_D (fun _ => True) ws ∧ va_K D vwCl [] U ∧ ri_Eok σ E
def ri_og (as : List Nat) (σ : Nat → Int) (b : Nat) (v : Option ri_V) (r : Option Value) : Prop := match v, r with
  | none, none => True
  | some v, some x => ri_g as σ b v x
  | _, _ => False
def ri_Qc (D : va_G) (as : List Nat) (σ : Nat → Int) (b sz : Nat) (outs : List ri_O) : Array Value → State → Outcome → State → Prop := fun _ st oc t =>
  (∃ z ∈ outs, ∃ (rv : Option Value) (ws : va_W) (ex : List Nat), oc = .returned rv ∧ ws.map Prod.fst = as ++ ex ∧ ri_og (as ++ ex) σ b z.1 rv ∧ ri_hp t (as ++ ex) σ b z.2.1 ws ∧ va_P D vwCl ws t.heap ∧ va_D (ri_A as sz) ws ∧ ri_Eok σ z.2.2) ∧ va_F (ri_A as sz) st t
theorem ri_blind {D : va_G} {as : List Nat} {σ : Nat → Int} {b sz : Nat} {av : List ri_V} {hp : List ri_C} {E : ri_E} : FrameBlind (ri_Pc D as σ b sz av hp E) := by
  intro a U g mk h
  obtain ⟨vs, ws, w1, w2, w3, w4, w5, w6, w7, w8, w9⟩ := h
  exact ⟨vs, ws, w1, w2, w3, w4, r2_mono (fun _ _ h => rc_moved (u := U) (U := U.calling g mk a) (Vm.Alike.refl U.vm) h) w5, w6, w7, va_K.moved (u := U) (U := U.calling g mk a) (Vm.Alike.refl U.vm) w8, w9⟩
def ri_rm (d mc ms : Nat) : Room := { frames := d, cells := mc, slots := ms, locals := 64 * d }
def ri_good (l : Launch) (d : Nat) (call : Nat → List ri_V → List ri_C → ri_E → Option (List ri_O)) : Prop :=
  ∀ (j : Nat) (av : List ri_V) (hp : List ri_C) (E : ri_E) (outs : List ri_O) (y : MethodName) (cd : ByteArray) (o mx : Nat) (rt : Option FieldType) (n : Nat) (stt : Bool) (mc ms : Nat) (ct : ri_T) (ps : List Nat), ri_row j = some (y, cd, o, mx, rt, n, stt, mc, ms, ct, ps) → call j av hp E = some outs →
    ∀ (D : va_G) (as : List Nat) (σ : Nat → Int) (b sz : Nat), Met l y (Cond.code y cd mx rt :: tb) (ri_rm d mc ms) (ri_Pc D as σ b sz av hp E) (ri_Qc D as σ b sz outs) mc ms (ri_A as sz)
theorem row_mem {j : Nat} {r : ri_M} (h : ri_row j = some r) : r ∈ tb_m ∧ j < tb_m.length + 2 := by
  unfold ri_row at h
  split at h
  · cases h
  · cases h
  · exact ⟨List.mem_of_getElem? h, by have := (List.getElem?_eq_some_iff.mp h).1; omega⟩
theorem row_facts {j : Nat} {y : MethodName} {cd : ByteArray} {o mx : Nat} {rt : Option FieldType} {n : Nat} {stt : Bool} {mc ms : Nat} {ct : ri_T} {ps : List Nat} (h : ri_row j = some (y, cd, o, mx, rt, n, stt, mc, ms, ct, ps)) :
    Cond.code y cd mx rt ∈ tb ∧ Cond.initialized y.cls ∈ tb ∧ (stt = true → Cond.static y ∈ tb) ∧ (stt = false → Cond.instanceMethod y ∈ tb ∧ (y.name = "<init>" ∨ Cond.selects y.cls y y ∈ tb)) ∧ plainName y.cls = true ∧ y.cls ≠ "java/lang/invoke/MethodHandle" ∧ y.cls ≠ "java/lang/invoke/VarHandle" ∧ (parseMethodDescriptor y.desc).map (fun d => d.parameters.length) = some n ∧ ri_own o = y.cls ∧ mx ≤ 45 ∧ ri_cdok cd ct ∧ ri_isini j = decide (y.name = "<init>") := by
  obtain ⟨hm, hj⟩ := row_mem h
  obtain ⟨h1, h2⟩ := tb_m_ok _ hm
  unfold ri_mchk at h1
  dsimp only at h1 h2
  rw [Bool.and_eq_true, Bool.and_eq_true, Bool.and_eq_true, Bool.and_eq_true, Bool.and_eq_true, Bool.and_eq_true, Bool.and_eq_true, Bool.and_eq_true] at h1
  obtain ⟨⟨a1, a2, a3⟩, b1, b2, b3, b4, b5, b6⟩ := h1
  rw [decide_eq_true_eq] at a1 a2 b2 b3 b4 b5 b6
  refine ⟨tb_mem _ a1 rfl, tb_mem _ a2 rfl, fun hs => ?_, fun hs => ?_, b1, b2, b3, b4, b5, b6, h2, ?_⟩
  · rw [hs] at a3
    dsimp only at a3
    rw [decide_eq_true_eq] at a3
    exact tb_mem _ a3 rfl
  · rw [hs] at a3
    dsimp only at a3
    rw [Bool.and_eq_true, Bool.or_eq_true, decide_eq_true_eq, decide_eq_true_eq, decide_eq_true_eq] at a3
    exact ⟨tb_mem _ a3.1 rfl, a3.2.imp id (fun z => tb_mem _ z rfl)⟩
  · rw [tb_m_len] at hj
    have := List.all_eq_true.mp ri_ini_ok j (List.mem_range.mpr hj)
    unfold ri_inic at this
    rw [h] at this
    dsimp only at this
    exact eq_of_beq this
theorem link_mem {o idx j nest pp : Nat} {y : MethodName} {cd : ByteArray} {o2 mx : Nat} {rt : Option FieldType} {n : Nat} {stt : Bool} {mc ms : Nat} {ct : ri_T} {ps : List Nat} (h : ri_key (tb_l o) idx = some (j, nest, pp)) (hr : ri_row j = some (y, cd, o2, mx, rt, n, stt, mc, ms, ct, ps)) : Cond.methodLink (ri_own o) idx y ∈ tb ∨ Cond.methodLinkNest (ri_own o) idx y RX8 ∈ tb := by
  have h1 := List.all_eq_true.mp (tb_l_all o) _ (rk_mem h)
  match j, hr with
  | 0, hr => cases hr
  | 1, hr => cases hr
  | k + 2, hr =>
    have hr : tb_m[k]? = some (y, cd, o2, mx, rt, n, stt, mc, ms, ct, ps) := hr
    cases nest with
    | zero =>
      have h1 : (match tb_m[k]? with | none => false | some r => decide (lw_tbl[pp]? = some (Cond.methodLink (ri_own o) idx r.1))) = true := h1
      rw [hr] at h1
      dsimp only at h1
      rw [decide_eq_true_eq] at h1
      exact Or.inl (tb_mem _ h1 rfl)
    | succ i =>
      have h1 : (match tb_m[k]? with | none => false | some r => decide (lw_tbl[pp]? = some (Cond.methodLinkNest (ri_own o) idx r.1 RX8))) = true := h1
      rw [hr] at h1
      dsimp only at h1
      rw [decide_eq_true_eq] at h1
      exact Or.inr (tb_mem _ h1 rfl)
section RS8
variable {p : Program} {l : Launch} {e : Env} {R : Room} {s : State} {m : MethodId} {args : Array Value} {below : List Frame} {meth : Method} {c : Code} {Q : State → Prop} {D : va_G} {A : Nat → Prop} {H0 : Heap} {σ : Nat → Int} {b nL : Nat} {Z : List Nat} {cc : ByteArray} {o : Nat} {sc : Option Nat} {ini : Bool} {rc rs : Nat} {call : Nat → List ri_V → List ri_C → ri_E → Option (List ri_O)}
theorem ri_cont {pc : Nat} {ls : Array Slot} {st0 rest : List Value} {H : Heap} {locs : List Loc} {cells slots mc ms : Nat} {as : List Nat} {outs : List ri_O} {a : Array Value}
    (hr : va_Run p l e R s m args below meth c H locs cells slots mc ms (F0 m pc ls st0) rest (ri_Qc D as σ b H.size outs a) (ri_A as H.size)) (hS : va_S A H0 H locs) (hAA : ∀ q, ri_A as H.size q → A q)
    (kk : ∀ z ∈ outs, ∀ (rv : Option Value) (ws : va_W) (ex : List Nat) (H1 : Heap) (locs1 : List Loc), ws.map Prod.fst = as ++ ex → ri_og (as ++ ex) σ b z.1 rv → ri_hp s (as ++ ex) σ b z.2.1 ws → va_P D vwCl ws H1 → va_D A ws → va_S A H0 H1 locs1 → ri_Eok σ z.2.2 → W p l e R s m args below meth c H1 locs1 (cells + mc) (slots + ms) Q (F0 m (pc + 3) ls (rv.toList ++ rest))) :
    W p l e R s m args below meth c H locs cells slots Q (F0 m pc ls st0) := by
  intro T hT X
  obtain ⟨v, st₀, t, T', L, h0, X', hL, e1, e2, ⟨⟨z, hz, rv, ws, ex, hv, m1, m2, m3, m4, m5, m6⟩, hzz, hk⟩, st⟩ := hr T hT X
  cases hv
  rw [h0] at hzz hk
  have hvm : s.vm.Alike t.vm := by rw [← e2]; exact X'.warmed.alike
  obtain ⟨t2, a1, b1⟩ := kk z hz v ws ex T'.heap (locs ++ L) m1 m2 (r2_mono (fun _ _ h => rc_moved hvm.symm h) m3) (by rw [e1]; exact m4) (m5.weaken (fun _ _ _ h => hAA _ h))
    ⟨Nat.le_trans hS.1 (by rw [e1]; exact hzz), fun q h1 h2 => by rw [e1, hk q (Nat.lt_of_lt_of_le h1 hS.1) (fun w => h2 (hAA q w))]; exact hS.2.1 q h1 h2, fun q hq => by
      rcases List.mem_append.mp hq with h | h
      · exact hS.2.2 q h
      · exact hAA _ (hL q h)⟩ m6 T' rfl X'
  exact ⟨t2, st t2 a1, b1⟩
/-- what comes back meets the next state -/
theorem inv_fin {pc : Nat} {lo : List (Nat × ri_V)} {rest : List ri_V} {cs ss mc ms : Nat} {outs : List ri_O} {ls : Array Slot} {stk : List Value} {ws0 : va_W} {lv : List (Nat × Value)}
    (hs : ∀ t ∈ outs.map (fun z => ((pc + 3, lo, ri_opt z.1 ++ rest, z.2.1, z.2.2, cs + mc, ss + ms) : ri_S)), ri_W p l e R s m args below meth c Q D A H0 σ b Z nL t) (hl : lv_has ls nL lv) (h1 : ri_lo (ws0.map Prod.fst) σ b lo lv) (h2 : ri_2 (ri_g (ws0.map Prod.fst) σ b) rest stk) (hZ : Z <+: ws0.map Prod.fst) :
    ∀ z ∈ outs, ∀ (rv : Option Value) (ws : va_W) (ex : List Nat) (H1 : Heap) (locs1 : List Loc), ws.map Prod.fst = ws0.map Prod.fst ++ ex → ri_og (ws0.map Prod.fst ++ ex) σ b z.1 rv → ri_hp s (ws0.map Prod.fst ++ ex) σ b z.2.1 ws → va_P D vwCl ws H1 → va_D A ws → va_S A H0 H1 locs1 → ri_Eok σ z.2.2 → W p l e R s m args below meth c H1 locs1 (cs + mc) (ss + ms) Q (F0 m (pc + 3) ls (rv.toList ++ stk)) := by
  intro z hz rv ws ex H1 locs1 m1 m2 m3 m4 m5 m6 m7
  refine hs _ (List.mem_map.mpr ⟨z, hz, rfl⟩) _ _ _ _ ⟨ws, lv, hl, ?_, ?_, ?_, m4, m5, m6, m7, by rw [m1]; exact hZ.trans (List.prefix_append _ _)⟩
  · rw [m1]; exact r2_mono (fun _ _ h => ⟨h.1, rg_app h.2⟩) h1
  · rw [m1]
    have h2' := r2_mono (fun _ _ h => rg_app (ex := ex) h) h2
    match hz1 : z.1, rv, m2 with
    | none, none, _ => exact h2'
    | some v, some x, m2 => exact ⟨m2, h2'⟩
  · rw [m1]; exact m3
theorem tb_pay2 {y : MethodName} {cd : ByteArray} {mx : Nat} {rt : Option FieldType} (hts : ∀ w ∈ tb, w.before args s = true) (hc : Cond.code y cd mx rt ∈ tb) : ∀ w ∈ (Cond.code y cd mx rt :: tb), ∀ (a' : Array Value) (U : State), s.WarmedH U.vm → w.before a' U = true := by
  intro w hw
  rcases List.mem_cons.mp hw with h | h
  · rw [h]; exact tb_pay hts _ hc
  · exact tb_pay hts _ h
end RS8
