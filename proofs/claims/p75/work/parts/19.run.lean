/-! the run and the call are sound -/
theorem find_mem : ∀ {l : List (Nat × Instr × Nat)} {pc : Nat} {i : Instr} {n : Nat}, ri_find l pc = some (i, n) → (pc, i, n) ∈ l
  | [], _, _, _, h => by cases h
  | (q, x, k) :: l, pc, i, n, h => by
    unfold ri_find at h
    split at h
    · rename_i hq
      have hq := Nat.eq_of_beq_eq_true hq
      cases h
      subst hq
      exact List.mem_cons_self
    · exact List.mem_cons_of_mem _ (find_mem h)
theorem at_dec {cc : ByteArray} {ct : ri_T} {pc : Nat} {i : Instr} {n : Nat} (hcd : ri_cdok cc ct) (h : ri_at ct pc = some (i, n)) : decode cc pc = .ok (i, n) := by
  unfold ri_at at h
  have hm := find_mem h
  rw [List.getD_eq_getElem?_getD] at hm
  cases hb : ct[pc / 32]? with
  | none =>
    rw [hb] at hm
    exact absurd hm List.not_mem_nil
  | some bk =>
    rw [hb] at hm
    exact hcd bk (List.mem_of_getElem? hb) (pc, i, n) hm
theorem all_sub {g : ri_S → Option (List ri_S)} : ∀ {l r : List ri_S}, ri_all g l = some r → ∀ s ∈ l, ∃ a, g s = some a ∧ ∀ t ∈ a, t ∈ r
  | [], _, _, s, hs => absurd hs List.not_mem_nil
  | x :: l, r, h, s, hs => by
    unfold ri_all at h
    split at h
    · cases h
    · rename_i a ha
      split at h
      · cases h
      · rename_i b hb
        cases h
        rcases List.mem_cons.mp hs with rfl | hs
        · exact ⟨a, ha, fun t ht => List.mem_append_left _ ht⟩
        · obtain ⟨a2, h1, h2⟩ := all_sub hb s hs
          exact ⟨a2, h1, fun t ht => List.mem_append_right _ (h2 t ht)⟩
theorem outs_sub {ct : ri_T} {rt : Option FieldType} {mc ms : Nat} : ∀ {l : List ri_S} {r : List ri_O}, ri_outs ct rt mc ms l = some r → ∀ s ∈ l, ∃ z, ri_out ct rt mc ms s = some z ∧ z ∈ r
  | [], _, _, s, hs => absurd hs List.not_mem_nil
  | x :: l, r, h, s, hs => by
    unfold ri_outs at h
    split at h
    · cases h
    · rename_i a ha
      split at h
      · cases h
      · rename_i b hb
        cases h
        rcases List.mem_cons.mp hs with rfl | hs
        · exact ⟨a, ha, List.mem_cons_self⟩
        · obtain ⟨z, h1, h2⟩ := outs_sub hb s hs
          exact ⟨z, h1, List.mem_cons_of_mem _ h2⟩
theorem args_ok {as : List Nat} {σ : Nat → Int} {b : Nat} : ∀ {av : List ri_V} {vs : List Value} (i : Nat), ri_2 (ri_g as σ b) av vs → ri_lo as σ b (ri_args i av) (lv_args i vs)
  | [], [], _, _ => trivial
  | v :: av, x :: vs, i, h => by
    refine ⟨⟨rfl, h.1⟩, ?_⟩
    have hc := rg_cat h.1
    have e : (if x.category = 2 then i + 2 else i + 1) = i + ri_cat v := by
      rw [hc]
      unfold ri_cat
      split <;> rfl
    show ri_lo as σ b (ri_args (i + ri_cat v) av) (lv_args (if x.category = 2 then i + 2 else i + 1) vs)
    rw [e]
    exact args_ok (i + ri_cat v) h.2
  | [], _ :: _, _, h => h.elim
  | _ :: _, [], _, h => h.elim
theorem args_len {as : List Nat} {σ : Nat → Int} {b : Nat} : ∀ {av : List ri_V} {vs : List Value}, ri_2 (ri_g as σ b) av vs → (lg_sl vs).length = ri_w av
  | [], [], _ => rfl
  | v :: av, x :: vs, h => by
    have hc := rg_cat h.1
    have ih := args_len h.2
    have e : lg_sl (x :: vs) = (if x.category = 2 then [.val x, .second] else [.val x]) ++ lg_sl vs := by
      unfold lg_sl
      rw [List.flatMap_cons]
    rw [e, List.length_append, ih, hc]
    show _ = ri_cat v + ri_w av
    unfold ri_cat
    split <;> rfl
  | [], _ :: _, h => h.elim
  | _ :: _, [], h => h.elim
section RS11
variable {p : Program} {l : Launch} {e : Env} {R : Room} {s : State} {m : MethodId} {args : Array Value} {below : List Frame} {meth : Method} {c : Code} {Q : State → Prop} {D : va_G} {A : Nat → Prop} {H0 : Heap} {σ : Nat → Int} {b nL : Nat} {Z : List Nat} {cc : ByteArray} {o : Nat} {sc : Option Nat} {ini : Bool} {rc rs : Nat} {call : Nat → List ri_V → List ri_C → ri_E → Option (List ri_O)} {d : Nat}
theorem so_run {ct : ri_T} (X : ri_X p R s m args meth c D A H0 σ b Z nL cc o sc ini rc rs) (hd1 : d + 1 ≤ R.frames) (hd2 : 64 * (d + 1) ≤ R.locals) (hg : ri_good l d call) (hcd : ri_cdok cc ct) : ∀ (f : Nat) (st : ri_S) (sts : List ri_S), ri_run ct (ri_step o sc ini nL rc rs call) f st = some sts → (∀ t ∈ sts, ri_W p l e R s m args below meth c Q D A H0 σ b Z nL t) → ri_W p l e R s m args below meth c Q D A H0 σ b Z nL st := by
  intro f
  induction f with
  | zero =>
    intro st sts h
    cases h
  | succ f ih =>
    intro st sts h hs
    unfold ri_run at h
    split at h
    · cases h
    · rename_i i len hat
      split at h
      · cases h
        exact hs st List.mem_cons_self
      · split at h
        · cases h
        · rename_i s1 hst
          exact so_step X hd1 hd2 hg (at_dec hcd hat) hst (fun t ht => by
            rw [List.mem_singleton.mp ht]
            exact ih s1 sts h hs)
        · rename_i sts1 _ hst
          exact so_step X hd1 hd2 hg (at_dec hcd hat) hst (fun t ht => by
            obtain ⟨a, h1, h2⟩ := all_sub h t ht
            exact ih t a h1 (fun u hu => hs u (h2 u hu)))
theorem so_out {as : List Nat} {ct : ri_T} {rt : Option FieldType} {mc ms : Nat} {st : ri_S} {z : ri_O} {outs : List ri_O} (X : ri_X p R s m args meth c D (ri_A as s.heap.size) s.heap σ b as nL cc o sc ini rc rs) (hcd : ri_cdok cc ct) (hrt : meth.sig.returnType = rt) (hlk : meth.locks = false) (h : ri_out ct rt mc ms st = some z) (hz : z ∈ outs) : ri_W p l e R s m args below meth c (MQ below (ri_Qc D as σ b s.heap.size outs) args s mc ms (ri_A as s.heap.size)) D (ri_A as s.heap.size) s.heap σ b as nL st := by
  obtain ⟨hx, hb, -⟩ := X
  obtain ⟨pc, lo, sk, hp, E, cs, ss⟩ := st
  intro ls stk H locs ⟨ws, lv, hl, h1, h2, h3, hP, hD, hS, hE, ex, hZ⟩
  unfold ri_out at h
  dsimp only at h h1 h2 h3 hE ⊢
  split at h
  · cases h
  · rename_i hk
    rw [Bool.and_eq_true] at hk
    have k1 := Nat.le_of_ble_eq_true hk.1
    have k2 := Nat.le_of_ble_eq_true hk.2
    have hm : ws.map Prod.fst = as ++ ex := hZ.symm
    have post : ∀ (rv : Option Value) (v : Option ri_V), z = (v, hp, E) → ri_og (ws.map Prod.fst) σ b v rv → ∀ t : State, t.heap = H → s.WarmedH t.vm → ri_Qc D as σ b s.heap.size outs args s (.returned rv) t := by
      intro rv v hzv hog t ht hW
      refine ⟨⟨z, hz, rv, ws, ex, rfl, hm, ?_, ?_, ?_, hD, ?_⟩, ?_⟩
      · rw [← hm, hzv]; exact hog
      · rw [← hm, hzv]; exact r2_mono (fun _ _ h => rc_moved hW.alike h) h3
      · rw [ht]; exact hP
      · rw [hzv]; exact hE
      · exact ⟨by rw [ht]; exact hS.1, fun q hq hA => by rw [ht]; exact hS.2.1 q hq hA⟩
    have hf : ∀ q ∈ locs, ri_A as s.heap.size q.base := hS.2.2
    refine W.widen k1 k2 ?_
    split at h
    · rename_i x hat
      cases h
      match stk, h2 with
      | [], h2 => exact h2.elim
      | _ :: _ :: _, h2 => exact h2.2.elim
      | [vx], ⟨⟨kx, ex, gx⟩, _⟩ =>
        subst ex
        exact W.iret hx hb hrt (post _ (some (.inl x)) rfl ⟨kx, rfl, gx⟩) hf (at_dec hcd hat) hlk
    · rename_i x hat
      split at h
      · rename_i hr
        cases h
        match stk, h2 with
        | [], h2 => exact h2.elim
        | _ :: _ :: _, h2 => exact h2.2.elim
        | [vx], ⟨⟨kx, ex, gx⟩, _⟩ =>
          subst ex
          have hbx := rn_iv hE gx
          unfold ri_sub at hr
          rw [Bool.and_eq_true, decide_eq_true_eq, decide_eq_true_eq] at hr
          have hn : narrow .boolean (.int kx) = .int kx := by
            rcases i32_01 (x := kx) (by have := hr.1; dsimp only at this; omega) (by have := hr.2; dsimp only at this; omega) with rfl | rfl <;> rfl
          exact W.zret hx hb hrt hn (post _ (some (.inl x)) rfl ⟨kx, rfl, gx⟩) hf (at_dec hcd hat) hlk
      · cases h
    · rename_i x hat
      cases h
      match stk, h2 with
      | [], h2 => exact h2.elim
      | _ :: _ :: _, h2 => exact h2.2.elim
      | [vx], ⟨⟨kx, ex, gx⟩, _⟩ =>
        subst ex
        exact W.lret hx hb hrt (post _ (some (.inr (.inl x))) rfl ⟨kx, rfl, gx⟩) hf (at_dec hcd hat) hlk
    · rename_i nm q hat
      cases h
      match stk, h2 with
      | [], h2 => exact h2.elim
      | _ :: _ :: _, h2 => exact h2.2.elim
      | [vx], ⟨⟨a, ha, ea⟩, _⟩ =>
        subst ea
        exact W.aret hx hb hrt (Or.inl ⟨_, rfl⟩) (Or.inr ⟨a, rfl⟩) (post _ (some (.inr (.inr (.inl (some q))))) rfl ⟨a, ha, rfl⟩) hf (at_dec hcd hat) hlk
    · rename_i hat
      cases h
      match stk, h2 with
      | _ :: _, h2 => exact h2.elim
      | [], _ => exact W.vret hx hb hrt (post _ none rfl trivial) hf (at_dec hcd hat) hlk
    · cases h
end RS11
theorem so_call (l : Launch) : ∀ d, ri_good l d (ri_callT d)
  | 0 => by
    intro j av hp E outs y cd o mx rt n stt mc ms ct ps hrow hcall
    cases hcall
  | d + 1 => by
    intro j av hp E outs y cd o mx rt n stt mc ms ct ps hrow hcall D as σ b sz
    unfold ri_callT at hcall
    rw [hrow] at hcall
    dsimp only at hcall
    split at hcall
    · cases hcall
    · rename_i hw
      have hw := Nat.le_of_ble_eq_true hw
      split at hcall
      · cases hcall
      · rename_i sts hrun
        obtain ⟨w1, w2, w3, w4, w5, w6, w7, w8, w9, w10, w11, w12⟩ := row_facts hrow
        refine Met.ofW (cc := cd) (maxL := mx) (ret := rt) w5 rfl ?_
        intro p e s m args below meth c s₁ B hml hP
        obtain ⟨vs, ws, rfl, rfl, q3, rfl, q5, q6, q7, q8, q9⟩ := hP
        have hts := atoms_spec (ws := Cond.code y cd mx rt :: tb) B.pre
        have hX : ri_X p (ri_rm (d + 1) mc ms) s m vs.toArray meth c D (ri_A (ws.map Prod.fst) s.heap.size) s.heap σ b (ws.map Prod.fst) mx cd o none (ri_isini j) mc ms := by
          refine ⟨B.exec, B.bytes, hml, ?_, fun w hw => hts w (List.mem_cons_of_mem _ hw), q8, fun q hq => Or.inr hq, fun hi => ?_, trivial, ⟨rfl, rfl⟩, ?_, ?_⟩
          · rw [w9]
            exact findClass_of_methodNamed B.named
          · rw [hi] at w12
            rw [(name_of_methodNamed B.named B.method).1]
            exact of_decide_eq_true w12.symm
          · show 1 ≤ d + 1
            omega
          · show 64 ≤ 64 * (d + 1)
            omega
        have hD : va_D (ri_A (ws.map Prod.fst) s.heap.size) ws := ⟨q7.1, fun k q hk => Or.inl (List.mem_map.mpr ⟨q, List.mem_of_getElem? hk, rfl⟩)⟩
        rw [lg_entry_eq]
        exact so_run hX (d := d) (Nat.le_refl _) (Nat.le_refl _) (so_call l d) w11 100000 _ sts hrun (fun t ht => by
          obtain ⟨z, hz1, hz2⟩ := outs_sub hcall t ht
          exact so_out hX w11 B.returns B.notSynchronized hz1 hz2) _ _ _ _ ⟨ws, lv_args 0 vs, lv_entry vs (by rw [args_len q3]; exact hw), args_ok 0 q3, trivial, q5, q6, hD, ⟨Nat.le_refl _, fun _ _ _ => rfl, fun _ h => absurd h List.not_mem_nil⟩, q9, List.prefix_refl _⟩
