/-! v2: calls: what goes in, what comes back -/
abbrev rj_O : Type := Option rj_V × List rj_H × rj_K × rj_Wr
abbrev rj_Ca : Type := Nat → List rj_V → List rj_H → rj_K → rj_Wr → Option (List rj_O)
def rj_Pc (D : va_G) (z : rj_Z) (σ : Nat → Int) (w0 ws : va_W) (sz : Nat) (vs : List Value) (av : List rj_V) (hp : List rj_H) (K : rj_K) (wr : rj_Wr) : Array Value → State → Prop := fun v U =>
  v = vs.toArray ∧ ws.map Prod.fst = z.1 ∧ ri_2 (rj_g z K.1.length σ) av vs ∧ U.heap.size = sz ∧ rj_hp U z K.1.length σ hp ws ∧ va_P D vwCl ws U.heap ∧ va_D (fun _ => True) ws ∧ va_K D vwCl [] U ∧ rj_sat σ K ∧ rj_un w0 ws wr ∧ rj_inv U z w0 ∧ rj_St z (ri_A z.1 sz) U U.heap
def rj_og (z : rj_Z) (N : Nat) (σ : Nat → Int) (v : Option rj_V) (r : Option Value) : Prop := match v, r with
  | none, none => True
  | some v, some x => rj_g z N σ v x
  | _, _ => False
def rj_Qc (D : va_G) (z : rj_Z) (N : Nat) (σ : Nat → Int) (w0 : va_W) (sz : Nat) (outs : List rj_O) : Array Value → State → Outcome → State → Prop := fun _ st oc t =>
  (∃ x ∈ outs, ∃ (rv : Option Value) (ws : va_W) (τ : Nat → Int), oc = .returned rv ∧ ws.map Prod.fst = z.1 ∧ rj_ag N σ τ ∧ N ≤ x.2.2.1.1.length ∧ rj_sat τ x.2.2.1 ∧ rj_og z x.2.2.1.1.length τ x.1 rv ∧ rj_hp t z x.2.2.1.1.length τ x.2.1 ws ∧ va_P D vwCl ws t.heap ∧ va_D (ri_A z.1 sz) ws ∧ rj_un w0 ws x.2.2.2) ∧ va_F (ri_A z.1 sz) st t
theorem inv_moved {u U : State} {z : rj_Z} {w : va_W} (hvm : u.vm.Alike U.vm) (h : rj_inv u z w) : rj_inv U z w := hp_moved hvm h
theorem rj_blind {D : va_G} {z : rj_Z} {σ : Nat → Int} {w0 ws : va_W} {sz : Nat} {vs : List Value} {av : List rj_V} {hp : List rj_H} {K : rj_K} {wr : rj_Wr} : FrameBlind (rj_Pc D z σ w0 ws sz vs av hp K wr) := by
  intro a U g mk h
  obtain ⟨h1, h2, h3, h4, h5, h6, h7, h8, h9, h10, h11, h12, h14, h15, adV, h13⟩ := h
  exact ⟨h1, h2, h3, h4, hp_moved (u := U) (U := U.calling g mk a) (Vm.Alike.refl U.vm) h5, h6, h7, va_K.moved (u := U) (U := U.calling g mk a) (Vm.Alike.refl U.vm) h8, h9, h10, inv_moved (u := U) (U := U.calling g mk a) (Vm.Alike.refl U.vm) h11, fun r hr => vk_R.same (u := U) (U := U.calling g mk a) rfl (h12 r hr), va_Z.moved (u := U) (U := U.calling g mk a) (Vm.Alike.refl U.vm) h14, va_Zq.moved (u := U) (U := U.calling g mk a) (Vm.Alike.refl U.vm) h15, adV, vk_S.moved (u := U) (U := U.calling g mk a) (Vm.Alike.refl U.vm) h13⟩
theorem met_imp {l : Launch} {y : MethodName} {ws : List Cond} {rm : Room} {P P' : Array Value → State → Prop} {Q Q' : Array Value → State → Outcome → State → Prop} {mc ms : Nat} {fr : Addr → Prop} (h : Met l y ws rm P Q mc ms fr) (hP : ∀ a U, P' a U → P a U) (hQ : ∀ a st oc t, P' a st → Q a st oc t → Q' a st oc t) : Met l y ws rm P' Q' mc ms fr := by
  intro p e h1 h2 h3 s m args below h4 h5 h6 h7
  obtain ⟨n, oc, a1, a2, a3, a4, a5⟩ := h p e h1 h2 h3 s m args below h4 h5 (hP _ _ h6) h7
  exact ⟨n, oc, a1, a2, a3, hQ _ _ _ _ h6 a4, a5⟩
def rj_good (l : Launch) (d : Nat) (call : rj_Ca) : Prop :=
  ∀ (j : Nat) (av : List rj_V) (hp : List rj_H) (K : rj_K) (wr : rj_Wr) (outs : List rj_O) (y : MethodName) (cd : ByteArray) (o mx : Nat) (rt : Option FieldType) (n : Nat) (stt : Bool) (mc ms : Nat) (ct : ri_T) (ps : List Nat), ri_row j = some (y, cd, o, mx, rt, n, stt, mc, ms, ct, ps) → call j av hp K wr = some outs →
    ∃ dd, dd ≤ d ∧ ∀ (D : va_G) (z : rj_Z) (σ : Nat → Int) (w0 ws : va_W) (sz : Nat) (vs : List Value), Met l y (Cond.code y cd mx rt :: tb) (ri_rm dd 0 0) (rj_Pc D z σ w0 ws sz vs av hp K wr) (rj_Qc D z K.1.length σ w0 sz outs) 0 0 (ri_A z.1 sz)
def rj_opt (v : Option rj_V) : List rj_V := match v with
  | none => []
  | some v => [v]
def rj_invV (o : Nat) (call : rj_Ca) (idx : Nat) (st : rj_S) : Option (List rj_S) := match st with
  | (pc, lo, sk, hp, K, wr) => match ri_key (tb_l o) idx with
    | none => none
    | some (j, _, _) => match ri_row j with
      | none => none
      | some (_, _, c1, _, _, n, stt, _, _, _, _) => match sk.drop n with
        | .inr (.inr (.inl q)) :: rest => (match hp[q]? with
          | some (.inl (c2, _)) => (match Nat.beq c2 c1 && (!stt && (!(ri_isini j) && Nat.ble (rj_w rest) 8)) with
            | false => none
            | true => match call j (.inr (.inr (.inl q)) :: (sk.take n).reverse) hp K wr with
              | none => none
              | some outs => some (outs.map (fun x => (pc + 3, lo, rj_opt x.1 ++ rest, x.2.1, x.2.2.1, x.2.2.2))))
          | _ => none)
        | _ => none
def rj_invS (o : Nat) (call : rj_Ca) (idx : Nat) (st : rj_S) : Option (List rj_S) := match st with
  | (pc, lo, sk, hp, K, wr) => match ri_key (tb_l o) idx with
    | none => none
    | some (j, _, _) => match ri_row j with
      | none => none
      | some (_, _, _, _, _, n, stt, _, _, _, _) => match Nat.ble n sk.length && (stt && Nat.ble (rj_w (sk.drop n)) 8) with
        | false => none
        | true => match call j (sk.take n).reverse hp K wr with
          | none => none
          | some outs => some (outs.map (fun x => (pc + 3, lo, rj_opt x.1 ++ sk.drop n, x.2.1, x.2.2.1, x.2.2.2)))
section RT6
variable {p : Program} {l : Launch} {e : Env} {R : Room} {s : State} {m : MethodId} {args : Array Value} {below : List Frame} {meth : Method} {c : Code} {Q : State → Prop} {D : va_G} {A : Nat → Prop} {H0 : Heap} {z : rj_Z} {N0 : Nat} {σ0 : Nat → Int} {w0 : va_W} {nL cs ss : Nat} {cc : ByteArray} {o : Nat}
theorem rj_cont {pc N : Nat} {σ : Nat → Int} {ls : Array Slot} {st0 rest : List Value} {H : Heap} {locs : List Loc} {outs : List rj_O} {a : Array Value}
    (hr : va_Run p l e R s m args below meth c H locs cs ss 0 0 (F0 m pc ls st0) rest (rj_Qc D z N σ w0 H.size outs a) (ri_A z.1 H.size)) (hS : va_S A H0 H locs) (hAA : ∀ q, ri_A z.1 H.size q → A q)
    (kk : ∀ x ∈ outs, ∀ (rv : Option Value) (ws : va_W) (τ : Nat → Int) (H1 : Heap) (locs1 : List Loc), ws.map Prod.fst = z.1 → rj_ag N σ τ → N ≤ x.2.2.1.1.length → rj_sat τ x.2.2.1 → rj_og z x.2.2.1.1.length τ x.1 rv → rj_hp s z x.2.2.1.1.length τ x.2.1 ws → va_P D vwCl ws H1 → va_D A ws → va_S A H0 H1 locs1 → rj_un w0 ws x.2.2.2 → W p l e R s m args below meth c H1 locs1 cs ss Q (F0 m (pc + 3) ls (rv.toList ++ rest))) :
    W p l e R s m args below meth c H locs cs ss Q (F0 m pc ls st0) := by
  intro T hT X
  obtain ⟨v, st₀, t, T', L, h0, X', hL, e1, e2, ⟨⟨x, hx, rv, ws, τ, hv, m1, m2, m3, m4, m5, m6, m7, m8, m9⟩, hzz, hk⟩, st⟩ := hr T hT X
  cases hv
  rw [h0] at hzz hk
  have hvm : s.vm.Alike t.vm := by rw [← e2]; exact X'.warmed.alike
  obtain ⟨t2, a1, b1⟩ := kk x hx v ws τ T'.heap (locs ++ L) m1 m2 m3 m4 m5 (hp_moved hvm.symm m6) (by rw [e1]; exact m7) (m8.weaken (fun _ _ _ h => hAA _ h))
    ⟨Nat.le_trans hS.1 (by rw [e1]; exact hzz), fun q h1 h2 => by rw [e1, hk q (Nat.lt_of_lt_of_le h1 hS.1) (fun w => h2 (hAA q w))]; exact hS.2.1 q h1 h2, fun q hq => by
      rcases List.mem_append.mp hq with h | h
      · exact hS.2.2 q h
      · exact hAA _ (hL q h)⟩ m9 T' rfl X'
  exact ⟨t2, st t2 a1, b1⟩
theorem jnv_fin {pc : Nat} {lo : List (Nat × rj_V)} {rest : List rj_V} {K : rj_K} {wr : rj_Wr} {σ : Nat → Int} {outs : List rj_O} {ls : Array Slot} {stk : List Value} {ws0 : va_W} {lv : List (Nat × Value)} {H : Heap} {locs : List Loc}
    (hs : ∀ t ∈ outs.map (fun x => ((pc + 3, lo, rj_opt x.1 ++ rest, x.2.1, x.2.2.1, x.2.2.2) : rj_S)), rj_W p l e R s m args below meth c Q D A H0 z N0 σ0 w0 nL cs ss t) (hB : rj_Gb D A H0 z N0 σ0 w0 H locs K wr σ ws0) (hl : lv_has ls nL lv) (h1 : rj_lo z K.1.length σ lo lv) (h2 : ri_2 (rj_g z K.1.length σ) rest stk) :
    ∀ x ∈ outs, ∀ (rv : Option Value) (ws : va_W) (τ : Nat → Int) (H1 : Heap) (locs1 : List Loc), ws.map Prod.fst = z.1 → rj_ag K.1.length σ τ → K.1.length ≤ x.2.2.1.1.length → rj_sat τ x.2.2.1 → rj_og z x.2.2.1.1.length τ x.1 rv → rj_hp s z x.2.2.1.1.length τ x.2.1 ws → va_P D vwCl ws H1 → va_D A ws → va_S A H0 H1 locs1 → rj_un w0 ws x.2.2.2 → W p l e R s m args below meth c H1 locs1 cs ss Q (F0 m (pc + 3) ls (rv.toList ++ stk)) := by
  intro x hx rv ws τ H1 locs1 m1 m2 m3 m4 m5 m6 m7 m8 m9 m10
  obtain ⟨-, -, -, -, -, b6, b7, -⟩ := hB
  refine hs _ (List.mem_map.mpr ⟨x, hx, rfl⟩) _ _ _ _ ⟨τ, ws, lv, ⟨m1, m7, m8, m9, m10, fun n hn => (m2 n (Nat.lt_of_lt_of_le hn b7)).trans (b6 n hn), Nat.le_trans b7 m3, m4⟩, hl, lo_ag m3 m2 h1, ?_, m6⟩
  have h2' := sk_ag m3 m2 h2
  match hz1 : x.1, rv, m5 with
  | none, none, _ =>
    exact h2'
  | some v, some y, m5 =>
    exact ⟨m5, h2'⟩
  | none, some _, m5 => exact m5.elim
  | some _, none, m5 => exact m5.elim
theorem jnv_AA {K : rj_K} {wr : rj_Wr} {σ : Nat → Int} {ws : va_W} {H : Heap} {locs : List Loc} (hA : ∀ q, H0.size ≤ q → A q) (hB : rj_Gb D A H0 z N0 σ0 w0 H locs K wr σ ws) : ∀ q, ri_A z.1 H.size q → A q := by
  intro q hq
  rcases hq with hq | hq
  · rw [← hB.1] at hq
    obtain ⟨w, hw, hw2⟩ := List.mem_map.mp hq
    obtain ⟨i, hi⟩ := List.getElem?_of_mem hw
    rw [← hw2]
    exact hB.2.2.1.2 i w hi
  · exact hA q (Nat.le_trans hB.2.2.2.1.1 hq)
theorem jnv_St {H : Heap} {locs : List Loc} {U : State} (hSt : rj_St z A s H0) (hS : va_S A H0 H locs) (hAA : ∀ q, ri_A z.1 H.size q → A q) (hU : U.heap = H) (hW : s.WarmedH U.vm) : rj_St z (ri_A z.1 H.size) U U.heap := by
  obtain ⟨g1, g3, g4, adV, g2⟩ := hSt
  rw [hU]
  exact ⟨fun r hr => vk_R.warm hW (g1 r hr), ((va_Z.moved hW.alike g3).kept (fun a h1 h2 => hS.2.1 a h1 h2)).narrow hAA, ((va_Zq.moved hW.alike g4).kept (fun a h1 h2 => hS.2.1 a h1 h2)).narrow hAA, adV, ((vk_S.moved hW.alike g2).kept (fun a h1 h2 => hS.2.1 a h1 h2)).narrow hAA⟩
theorem to_invV {idx d : Nat} {call : rj_Ca} {st : rj_S} {sts : List rj_S} (X : rj_Xc p R s m args c D A H0 z nL cc o cs ss) (hI : rj_inv s z w0) (hd1 : d + 1 ≤ R.frames) (hd2 : 64 * (d + 1) ≤ R.locals) (hg : rj_good l d call) (hdg : decode cc st.1 = .ok (.invokevirtual idx, 3)) (h : rj_invV o call idx st = some sts) (hs : ∀ t ∈ sts, rj_W p l e R s m args below meth c Q D A H0 z N0 σ0 w0 nL cs ss t) : rj_W p l e R s m args below meth c Q D A H0 z N0 σ0 w0 nL cs ss st := by
  obtain ⟨hx, hb, hml, hown, hts, hK, hA, hSt, ⟨hr1, hr2⟩, -⟩ := X
  obtain ⟨pc, lo, sk, hp, K, wr⟩ := st
  intro ls stk H locs ⟨σ, ws, lv, hB, hl, h1, h2, h3⟩
  unfold rj_invV at h
  dsimp only at h h1 h2 h3 hB hdg ⊢
  split at h
  · cases h
  · rename_i j nest pp hlk
    split at h
    · cases h
    · rename_i y cd c1 mx rt nn stt mc ms ct ps hrow
      split at h
      · rename_i qq rest hdrop
        split at h
        · rename_i c2 fs hq
          split at h
          · cases h
          · rename_i hk
            split at h
            · cases h
            · rename_i outs hcall
              cases h
              simp only [Bool.and_eq_true, Bool.not_eq_true'] at hk
              obtain ⟨k1, k2, k3, k7⟩ := hk
              have k1 := Nat.eq_of_beq_eq_true k1
              subst k1
              have k7 := Nat.le_of_ble_eq_true k7
              obtain ⟨w1, w2, w3, w4, w5, w6, w7, w8, w9, w10, w11, w12⟩ := row_facts hrow
              obtain ⟨w4a, w4b⟩ := w4 k2
              obtain ⟨dd, hdd, hM⟩ := hg j _ hp K wr outs y cd c2 mx rt nn stt mc ms ct ps hrow hcall
              have hdr := r2_drop nn h2
              rw [hdrop] at hdr
              obtain ⟨va, rest', hstk⟩ : ∃ va rest', stk.drop nn = va :: rest' := by
                cases hz : stk.drop nn with
                | nil => rw [hz] at hdr; exact hdr.elim
                | cons x r => exact ⟨x, r, rfl⟩
              rw [hstk] at hdr
              obtain ⟨⟨a, ha, ea⟩, hrest⟩ := hdr
              subst ea
              obtain ⟨e1, g1, vs, rfl, g2⟩ := hp_at h3 hB.1 ha hq
              have hM := hM D z σ w0 ws H.size (Value.ref a :: (stk.take nn).reverse)
              have hspl : stk = ((stk.take nn).reverse).reverse ++ .ref a :: rest' := by
                rw [List.reverse_reverse, ← hstk, List.take_append_drop]
              have hnlen : (stk.take nn).reverse.length = nn := by
                rw [List.length_reverse, List.length_take]
                have : nn < stk.length := by
                  have := congrArg List.length hstk
                  rw [List.length_drop, List.length_cons] at this
                  omega
                omega
              have hP := hB.2.1
              obtain ⟨rcls, hcl, -⟩ := hP qq _ g1
              have hcn : rcls.1 = y.cls := by
                rw [← w9]
                unfold ri_own
                rw [show vwCl[c2]? = some rcls from hcl]
              have hrecv := va_recv hK hP hcl g1
              rw [hcn] at hrecv
              have hAA := jnv_AA hA hB
              have hS := hB.2.2.2.1
              have hpre : ∀ U : State, U.heap = H → s.WarmedH U.vm → rj_Pc D z σ w0 ws H.size (Value.ref a :: (stk.take nn).reverse) (.inr (.inr (.inl qq)) :: (sk.take nn).reverse) hp K wr (Value.ref a :: (stk.take nn).reverse).toArray U := fun U hU hW =>
                ⟨rfl, hB.1, ⟨⟨a, ha, rfl⟩, r2_rev (r2_take nn h2)⟩, by rw [hU], hp_moved hW.alike h3, by rw [hU]; exact hP, hB.2.2.1.weaken (fun _ _ _ _ => trivial), va_K.moved hW.alike hK, Gb_K hB, hB.2.2.2.2.1, inv_moved hW.alike hI, jnv_St hSt hS hAA hU hW⟩
              have hroom : 2 * (F0 m pc ls stk).monitorRoom + (rest'.map fun v => v.category).sum ≤ 8 := lv_room (by rw [jg_w hrest]; exact k7)
              have hcb : (ri_rm dd 0 0).cells = 0 ∧ (ri_rm dd 0 0).slots = 0 ∧ (ri_rm dd 0 0).frames + 1 ≤ R.frames ∧ 8 + (mx + 11) + (ri_rm dd 0 0).locals ≤ R.locals := ⟨rfl, rfl, by show dd + 1 ≤ R.frames; omega, by show 8 + (mx + 11) + 64 * dd ≤ R.locals; omega⟩
              have hpar : ∀ sig, parseMethodDescriptor y.desc = some sig → nn = sig.parameters.length := fun sig hsg => by
                rw [hsg] at w8
                exact (Option.some.inj w8).symm
              have hfit : cs + 0 ≤ R.cells ∧ ss + 0 ≤ R.slots := ⟨hr1, hr2⟩
              have hni : y.name ≠ "<init>" := by
                rw [k3] at w12
                exact of_decide_eq_false w12.symm
              have hsel := hts _ (w4b.resolve_left hni)
              rcases link_mem hlk hrow with lk | lk
              · exact rj_cont (va_runV (As := (stk.take nn).reverse) (rest := rest') ⟨hx, hb, hml, hown, hts⟩ hM ⟨⟨hcb.1, hcb.2.1, hcb.2.2.1, hcb.2.2.2, tb_pay2 hts w1, List.mem_cons_self, hts _ w1, hts _ w2, ⟨w6, w7⟩, hpar, hts _ lk⟩, hts _ w4a, hsel⟩ ⟨rj_blind, hrecv, hpre⟩ rfl hnlen hl.1 hspl hroom hdg hfit) hS hAA (jnv_fin hs hB hl h1 hrest)
              · exact rj_cont (va_runVN (As := (stk.take nn).reverse) (rest := rest') ⟨hx, hb, hml, hown, hts⟩ hM ⟨⟨⟨hcb.1, hcb.2.1, hcb.2.2.1, hcb.2.2.2, tb_pay2 hts w1, List.mem_cons_self⟩, hts _ w1, hts _ w2, ⟨w6, w7⟩, hpar, hts _ lk⟩, hts _ w4a, hsel⟩ ⟨rj_blind, hrecv, hpre⟩ rfl hnlen hl.1 hspl hroom hdg hfit) hS hAA (jnv_fin hs hB hl h1 hrest)
        · cases h
      · cases h
theorem to_invS {idx d : Nat} {call : rj_Ca} {st : rj_S} {sts : List rj_S} (X : rj_Xc p R s m args c D A H0 z nL cc o cs ss) (hI : rj_inv s z w0) (hd1 : d + 1 ≤ R.frames) (hd2 : 64 * (d + 1) ≤ R.locals) (hg : rj_good l d call) (hdg : decode cc st.1 = .ok (.invokestatic idx, 3)) (h : rj_invS o call idx st = some sts) (hs : ∀ t ∈ sts, rj_W p l e R s m args below meth c Q D A H0 z N0 σ0 w0 nL cs ss t) : rj_W p l e R s m args below meth c Q D A H0 z N0 σ0 w0 nL cs ss st := by
  obtain ⟨hx, hb, hml, hown, hts, hK, hA, hSt, ⟨hr1, hr2⟩, -⟩ := X
  obtain ⟨pc, lo, sk, hp, K, wr⟩ := st
  intro ls stk H locs ⟨σ, ws, lv, hB, hl, h1, h2, h3⟩
  unfold rj_invS at h
  dsimp only at h h1 h2 h3 hB hdg ⊢
  split at h
  · cases h
  · rename_i j nest pp hlk
    split at h
    · cases h
    · rename_i y cd c1 mx rt nn stt mc ms ct ps hrow
      split at h
      · cases h
      · rename_i hk
        split at h
        · cases h
        · rename_i outs hcall
          cases h
          simp only [Bool.and_eq_true] at hk
          obtain ⟨k1, k2, k7⟩ := hk
          have k1 := Nat.le_of_ble_eq_true k1
          have k7 := Nat.le_of_ble_eq_true k7
          obtain ⟨w1, w2, w3, w4, w5, w6, w7, w8, w9, w10, w11, w12⟩ := row_facts hrow
          have w3 := w3 k2
          obtain ⟨dd, hdd, hM⟩ := hg j _ hp K wr outs y cd c1 mx rt nn stt mc ms ct ps hrow hcall
          have hM := hM D z σ w0 ws H.size (stk.take nn).reverse
          have hrest := r2_drop nn h2
          have hspl : stk = ((stk.take nn).reverse).reverse ++ stk.drop nn := by
            rw [List.reverse_reverse, List.take_append_drop]
          have hnlen : (stk.take nn).reverse.length = nn := by
            rw [List.length_reverse, List.length_take, ← r2_len h2]
            omega
          have hP := hB.2.1
          have hAA := jnv_AA hA hB
          have hS := hB.2.2.2.1
          have hpre : ∀ U : State, U.heap = H → s.WarmedH U.vm → rj_Pc D z σ w0 ws H.size (stk.take nn).reverse (sk.take nn).reverse hp K wr ((stk.take nn).reverse).toArray U := fun U hU hW =>
            ⟨rfl, hB.1, r2_rev (r2_take nn h2), by rw [hU], hp_moved hW.alike h3, by rw [hU]; exact hP, hB.2.2.1.weaken (fun _ _ _ _ => trivial), va_K.moved hW.alike hK, Gb_K hB, hB.2.2.2.2.1, inv_moved hW.alike hI, jnv_St hSt hS hAA hU hW⟩
          have hroom : 2 * (F0 m pc ls stk).monitorRoom + ((stk.drop nn).map fun v => v.category).sum ≤ 8 := lv_room (by rw [jg_w hrest]; exact k7)
          have hcb : (ri_rm dd 0 0).cells = 0 ∧ (ri_rm dd 0 0).slots = 0 ∧ (ri_rm dd 0 0).frames + 1 ≤ R.frames ∧ 8 + (mx + 11) + (ri_rm dd 0 0).locals ≤ R.locals := ⟨rfl, rfl, by show dd + 1 ≤ R.frames; omega, by show 8 + (mx + 11) + 64 * dd ≤ R.locals; omega⟩
          have hpar : ∀ sig, parseMethodDescriptor y.desc = some sig → nn = sig.parameters.length := fun sig hsg => by
            rw [hsg] at w8
            exact (Option.some.inj w8).symm
          have hfit : cs + 0 ≤ R.cells ∧ ss + 0 ≤ R.slots := ⟨hr1, hr2⟩
          rcases link_mem hlk hrow with lk | lk
          · exact rj_cont (va_runS (As := (stk.take nn).reverse) (rest := stk.drop nn) ⟨hx, hb, hml, hown, hts⟩ hM ⟨⟨hcb.1, hcb.2.1, hcb.2.2.1, hcb.2.2.2, tb_pay2 hts w1, List.mem_cons_self, hts _ w1, hts _ w2, ⟨w6, w7⟩, hpar, hts _ lk⟩, hts _ w3⟩ ⟨rj_blind, hpre⟩ rfl hnlen hl.1 hspl hroom hdg hfit) hS hAA (jnv_fin hs hB hl h1 hrest)
          · exact rj_cont (va_runSN (As := (stk.take nn).reverse) (rest := stk.drop nn) ⟨hx, hb, hml, hown, hts⟩ hM ⟨⟨⟨hcb.1, hcb.2.1, hcb.2.2.1, hcb.2.2.2, tb_pay2 hts w1, List.mem_cons_self⟩, hts _ w1, hts _ w2, ⟨w6, w7⟩, hpar, hts _ lk⟩, hts _ w3, trivial⟩ ⟨rj_blind, hpre⟩ rfl hnlen hl.1 hspl hroom hdg hfit) hS hAA (jnv_fin hs hB hl h1 hrest)
end RT6
