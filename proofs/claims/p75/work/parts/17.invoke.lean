/-! the step is sound: calls -/
section RS9
variable {p : Program} {l : Launch} {e : Env} {R : Room} {s : State} {m : MethodId} {args : Array Value} {below : List Frame} {meth : Method} {c : Code} {Q : State → Prop} {D : va_G} {A : Nat → Prop} {H0 : Heap} {σ : Nat → Int} {b nL : Nat} {Z : List Nat} {cc : ByteArray} {o : Nat} {sc : Option Nat} {ini : Bool} {rc rs : Nat} {call : Nat → List ri_V → List ri_C → ri_E → Option (List ri_O)} {d : Nat}
theorem so_invV {sp : Bool} {idx : Nat} {st : ri_S} {sts : List ri_S} (X : ri_X p R s m args meth c D A H0 σ b Z nL cc o sc ini rc rs) (hd1 : d + 1 ≤ R.frames) (hd2 : 64 * (d + 1) ≤ R.locals) (hg : ri_good l d call) (hdg : decode cc st.1 = .ok (if sp = true then .invokespecial idx else .invokevirtual idx, 3)) (h : ri_invV o rc rs call sp idx st = some sts) (hs : ∀ t ∈ sts, ri_W p l e R s m args below meth c Q D A H0 σ b Z nL t) : ri_W p l e R s m args below meth c Q D A H0 σ b Z nL st := by
  obtain ⟨hx, hb, hml, hown, hts, hK, hA, hini, hsc, ⟨hr1, hr2⟩, -⟩ := X
  obtain ⟨pc, lo, sk, hp, E, cs, ss⟩ := st
  intro ls stk H locs ⟨ws, lv, hl, h1, h2, h3, hP, hD, hS, hE, hZ⟩
  unfold ri_invV at h
  dsimp only at h h1 h2 h3 hE hdg ⊢
  split at h
  · cases h
  · rename_i j nest pp hlk
    split at h
    · cases h
    · rename_i y cd c1 mx rt nn stt mc ms ct ps hrow
      split at h
      · rename_i qq rest hdrop
        split at h
        · rename_i c2 fs hq
          split at h
          · cases h
          · rename_i hk
            split at h
            · cases h
            · rename_i outs hcall
              cases h
              simp only [Bool.and_eq_true, Bool.not_eq_true', Bool.or_eq_true] at hk
              obtain ⟨k1, k2, k3, k4, k5, k6, k7⟩ := hk
              have k1 := Nat.eq_of_beq_eq_true k1
              subst k1
              have k3 : ri_isini j = sp := eq_of_beq k3
              have k5 := Nat.le_of_ble_eq_true k5
              have k6 := Nat.le_of_ble_eq_true k6
              have k7 := Nat.le_of_ble_eq_true k7
              obtain ⟨w1, w2, w3, w4, w5, w6, w7, w8, w9, w10, w11, w12⟩ := row_facts hrow
              obtain ⟨w4a, w4b⟩ := w4 k2
              have hM := hg j _ hp E outs y cd c2 mx rt nn stt mc ms ct ps hrow hcall D (ws.map Prod.fst) σ b H.size
              have hdr := r2_drop nn h2
              rw [hdrop] at hdr
              obtain ⟨va, rest', hstk⟩ : ∃ va rest', stk.drop nn = va :: rest' := by
                cases hz : stk.drop nn with
                | nil => rw [hz] at hdr; exact hdr.elim
                | cons x r => exact ⟨x, r, rfl⟩
              rw [hstk] at hdr
              obtain ⟨⟨a, ha, ea⟩, hrest⟩ := hdr
              subst ea
              obtain ⟨e1, g1, vs, rfl, g2⟩ := at_ref h3 ha hq
              have hspl : stk = ((stk.take nn).reverse).reverse ++ .ref a :: rest' := by
                rw [List.reverse_reverse, ← hstk, List.take_append_drop]
              have hnlen : (stk.take nn).reverse.length = nn := by
                rw [List.length_reverse, List.length_take]
                have : nn < stk.length := by
                  have := congrArg List.length hstk
                  rw [List.length_drop, List.length_cons] at this
                  omega
                omega
              obtain ⟨rcls, hcl, -⟩ := hP qq _ g1
              have hcn : rcls.1 = y.cls := by
                rw [← w9]
                unfold ri_own
                rw [show vwCl[c2]? = some rcls from hcl]
              have hrecv := va_recv hK hP hcl g1
              rw [hcn] at hrecv
              have hpre : ∀ U : State, U.heap = H → s.WarmedH U.vm → ri_Pc D (ws.map Prod.fst) σ b H.size (.inr (.inr (.inl (some qq))) :: (sk.take nn).reverse) hp E (Value.ref a :: (stk.take nn).reverse).toArray U := fun U hU hW =>
                ⟨_, ws, rfl, rfl, ⟨⟨a, ha, rfl⟩, r2_rev (r2_take nn h2)⟩, by rw [hU], r2_mono (fun _ _ h => rc_moved hW.alike h) h3, by rw [hU]; exact hP, hD.weaken (fun _ _ _ _ => trivial), va_K.moved hW.alike hK, hE⟩
              have hAA : ∀ q, ri_A (ws.map Prod.fst) H.size q → A q := by
                intro q hq
                rcases hq with hq | hq
                · obtain ⟨w, hw, hw2⟩ := List.mem_map.mp hq
                  obtain ⟨i, hi⟩ := List.getElem?_of_mem hw
                  rw [← hw2]
                  exact hD.2 i w hi
                · exact hA q (Nat.le_trans hS.1 hq)
              have hroom : 2 * (F0 m pc ls stk).monitorRoom + (rest'.map fun v => v.category).sum ≤ 8 := lv_room (by rw [rg_w hrest]; exact k7)
              have hcb : (ri_rm d mc ms).cells = mc ∧ (ri_rm d mc ms).slots = ms ∧ (ri_rm d mc ms).frames + 1 ≤ R.frames ∧ 8 + (mx + 11) + (ri_rm d mc ms).locals ≤ R.locals := ⟨rfl, rfl, hd1, by show 8 + (mx + 11) + 64 * d ≤ R.locals; omega⟩
              have hpar : ∀ sig, parseMethodDescriptor y.desc = some sig → nn = sig.parameters.length := fun sig hsg => by
                rw [hsg] at w8
                exact (Option.some.inj w8).symm
              have hfit : cs + mc ≤ R.cells ∧ ss + ms ≤ R.slots := ⟨by rw [hr1]; exact k5, by rw [hr2]; exact k6⟩
              cases sp with
              | false =>
                have hni : y.name ≠ "<init>" := by
                  rw [k3] at w12
                  exact of_decide_eq_false w12.symm
                have hsel := hts _ (w4b.resolve_left hni)
                rcases link_mem hlk hrow with lk | lk
                · exact ri_cont (va_runV (As := (stk.take nn).reverse) (rest := rest') ⟨hx, hb, hml, hown, hts⟩ hM ⟨⟨hcb.1, hcb.2.1, hcb.2.2.1, hcb.2.2.2, tb_pay2 hts w1, List.mem_cons_self, hts _ w1, hts _ w2, ⟨w6, w7⟩, hpar, hts _ lk⟩, hts _ w4a, hsel⟩ ⟨ri_blind, hrecv, hpre⟩ rfl hnlen hl.1 hspl hroom hdg hfit) hS hAA (inv_fin hs hl h1 hrest hZ)
                · exact ri_cont (va_runVN (As := (stk.take nn).reverse) (rest := rest') ⟨hx, hb, hml, hown, hts⟩ hM ⟨⟨⟨hcb.1, hcb.2.1, hcb.2.2.1, hcb.2.2.2, tb_pay2 hts w1, List.mem_cons_self⟩, hts _ w1, hts _ w2, ⟨w6, w7⟩, hpar, hts _ lk⟩, hts _ w4a, hsel⟩ ⟨ri_blind, hrecv, hpre⟩ rfl hnlen hl.1 hspl hroom hdg hfit) hS hAA (inv_fin hs hl h1 hrest hZ)
              | true =>
                have hni : y.name = "<init>" := by
                  rw [k3] at w12
                  exact of_decide_eq_true w12.symm
                have hrt : rt = none := by
                  rcases k4 with k4 | k4
                  · cases k4
                  · exact Option.isNone_iff_eq_none.mp k4
                subst hrt
                rcases link_mem hlk hrow with lk | lk
                · exact ri_cont (va_runI (As := (stk.take nn).reverse) (rest := rest') ⟨hx, hb, hml, hown, hts⟩ hM ⟨⟨hcb.1, hcb.2.1, hcb.2.2.1, hcb.2.2.2, tb_pay2 hts w1, List.mem_cons_self, hts _ w1, hts _ w2, ⟨w6, w7⟩, hpar, hts _ lk⟩, hni, hts _ w4a⟩ ⟨ri_blind, hpre⟩ rfl hnlen hl.1 hspl hroom hdg hfit) hS hAA (inv_fin hs hl h1 hrest hZ)
                · exact ri_cont (va_runIN (As := (stk.take nn).reverse) (rest := rest') ⟨hx, hb, hml, hown, hts⟩ hM ⟨⟨⟨hcb.1, hcb.2.1, hcb.2.2.1, hcb.2.2.2, tb_pay2 hts w1, List.mem_cons_self⟩, hts _ w1, hts _ w2, ⟨w6, w7⟩, hpar, hts _ lk⟩, hni, hts _ w4a⟩ ⟨ri_blind, hpre⟩ rfl hnlen hl.1 hspl hroom hdg hfit) hS hAA (inv_fin hs hl h1 hrest hZ)
        · cases h
      · cases h
theorem so_invS {idx : Nat} {st : ri_S} {sts : List ri_S} (X : ri_X p R s m args meth c D A H0 σ b Z nL cc o sc ini rc rs) (hd1 : d + 1 ≤ R.frames) (hd2 : 64 * (d + 1) ≤ R.locals) (hg : ri_good l d call) (hdg : decode cc st.1 = .ok (.invokestatic idx, 3)) (h : ri_invS o rc rs call idx st = some sts) (hs : ∀ t ∈ sts, ri_W p l e R s m args below meth c Q D A H0 σ b Z nL t) : ri_W p l e R s m args below meth c Q D A H0 σ b Z nL st := by
  obtain ⟨hx, hb, hml, hown, hts, hK, hA, hini, hsc, ⟨hr1, hr2⟩, -⟩ := X
  obtain ⟨pc, lo, sk, hp, E, cs, ss⟩ := st
  intro ls stk H locs ⟨ws, lv, hl, h1, h2, h3, hP, hD, hS, hE, hZ⟩
  unfold ri_invS at h
  dsimp only at h h1 h2 h3 hE hdg ⊢
  split at h
  · cases h
  · rename_i j nest pp hlk
    split at h
    · cases h
    · rename_i y cd c1 mx rt nn stt mc ms ct ps hrow
      split at h
      · cases h
      · rename_i hk
        split at h
        · cases h
        · rename_i outs hcall
          cases h
          simp only [Bool.and_eq_true] at hk
          obtain ⟨k1, k2, k5, k6, k7⟩ := hk
          have k1 := Nat.le_of_ble_eq_true k1
          have k5 := Nat.le_of_ble_eq_true k5
          have k6 := Nat.le_of_ble_eq_true k6
          have k7 := Nat.le_of_ble_eq_true k7
          obtain ⟨w1, w2, w3, w4, w5, w6, w7, w8, w9, w10, w11, w12⟩ := row_facts hrow
          have w3 := w3 k2
          have hM := hg j _ hp E outs y cd c1 mx rt nn stt mc ms ct ps hrow hcall D (ws.map Prod.fst) σ b H.size
          have hrest := r2_drop nn h2
          have hspl : stk = ((stk.take nn).reverse).reverse ++ stk.drop nn := by
            rw [List.reverse_reverse, List.take_append_drop]
          have hnlen : (stk.take nn).reverse.length = nn := by
            rw [List.length_reverse, List.length_take, ← r2_len h2]
            omega
          have hpre : ∀ U : State, U.heap = H → s.WarmedH U.vm → ri_Pc D (ws.map Prod.fst) σ b H.size (sk.take nn).reverse hp E ((stk.take nn).reverse).toArray U := fun U hU hW =>
            ⟨_, ws, rfl, rfl, r2_rev (r2_take nn h2), by rw [hU], r2_mono (fun _ _ h => rc_moved hW.alike h) h3, by rw [hU]; exact hP, hD.weaken (fun _ _ _ _ => trivial), va_K.moved hW.alike hK, hE⟩
          have hAA : ∀ q, ri_A (ws.map Prod.fst) H.size q → A q := by
            intro q hq
            rcases hq with hq | hq
            · obtain ⟨w, hw, hw2⟩ := List.mem_map.mp hq
              obtain ⟨i, hi⟩ := List.getElem?_of_mem hw
              rw [← hw2]
              exact hD.2 i w hi
            · exact hA q (Nat.le_trans hS.1 hq)
          have hroom : 2 * (F0 m pc ls stk).monitorRoom + ((stk.drop nn).map fun v => v.category).sum ≤ 8 := lv_room (by rw [rg_w hrest]; exact k7)
          have hcb : (ri_rm d mc ms).cells = mc ∧ (ri_rm d mc ms).slots = ms ∧ (ri_rm d mc ms).frames + 1 ≤ R.frames ∧ 8 + (mx + 11) + (ri_rm d mc ms).locals ≤ R.locals := ⟨rfl, rfl, hd1, by show 8 + (mx + 11) + 64 * d ≤ R.locals; omega⟩
          have hpar : ∀ sig, parseMethodDescriptor y.desc = some sig → nn = sig.parameters.length := fun sig hsg => by
            rw [hsg] at w8
            exact (Option.some.inj w8).symm
          have hfit : cs + mc ≤ R.cells ∧ ss + ms ≤ R.slots := ⟨by rw [hr1]; exact k5, by rw [hr2]; exact k6⟩
          rcases link_mem hlk hrow with lk | lk
          · exact ri_cont (va_runS (As := (stk.take nn).reverse) (rest := stk.drop nn) ⟨hx, hb, hml, hown, hts⟩ hM ⟨⟨hcb.1, hcb.2.1, hcb.2.2.1, hcb.2.2.2, tb_pay2 hts w1, List.mem_cons_self, hts _ w1, hts _ w2, ⟨w6, w7⟩, hpar, hts _ lk⟩, hts _ w3⟩ ⟨ri_blind, hpre⟩ rfl hnlen hl.1 hspl hroom hdg hfit) hS hAA (inv_fin hs hl h1 hrest hZ)
          · exact ri_cont (va_runSN (As := (stk.take nn).reverse) (rest := stk.drop nn) ⟨hx, hb, hml, hown, hts⟩ hM ⟨⟨⟨hcb.1, hcb.2.1, hcb.2.2.1, hcb.2.2.2, tb_pay2 hts w1, List.mem_cons_self⟩, hts _ w1, hts _ w2, ⟨w6, w7⟩, hpar, hts _ lk⟩, hts _ w3, trivial⟩ ⟨ri_blind, hpre⟩ rfl hnlen hl.1 hspl hroom hdg hfit) hS hAA (inv_fin hs hl h1 hrest hZ)
theorem so_spec {idx : Nat} {st : ri_S} {sts : List ri_S} (X : ri_X p R s m args meth c D A H0 σ b Z nL cc o sc ini rc rs) (hd1 : d + 1 ≤ R.frames) (hd2 : 64 * (d + 1) ≤ R.locals) (hg : ri_good l d call) (hdg : decode cc st.1 = .ok (.invokespecial idx, 3)) (h : ri_spec o rc rs call idx st = some sts) (hs : ∀ t ∈ sts, ri_W p l e R s m args below meth c Q D A H0 σ b Z nL t) : ri_W p l e R s m args below meth c Q D A H0 σ b Z nL st := by
  unfold ri_spec at h
  split at h
  · rename_i nest pp hlk
    have h1 := List.all_eq_true.mp (tb_l_all o) _ (rk_mem hlk)
    unfold ri_lok at h1
    dsimp only at h1
    rw [decide_eq_true_eq] at h1
    have lk : Cond.methodLink (ri_own o) idx objectInit ∈ tb := tb_mem _ h1 rfl
    obtain ⟨hx, hb, hml, hown, hts, hK, hA, hini, hsc, hr, hr3, hr4⟩ := X
    obtain ⟨pc, lo, sk, hp, E, cs, ss⟩ := st
    intro ls stk H locs ⟨ws, lv, hl, g1, h2, h3, hP, hD, hS, hE, hZ⟩
    split at h
    · rename_i _ _ qq rest _ _ _ _ hst
      cases hst
      split at h
      · rename_i hk
        cases h
        have hk := Nat.le_of_ble_eq_true hk
        match stk, h2 with
        | [], h2 => exact h2.elim
        | va :: stk, ⟨⟨a, ha, ea⟩, h2⟩ =>
          subst ea
          have hroom : 2 * (F0 m pc ls (.ref a :: stk)).monitorRoom + (stk.map fun v => v.category).sum ≤ 8 := lv_room (by rw [rg_w h2]; exact hk)
          refine W.objInit hx hb hown (hts _ lk) (hts _ (tb_mem _ tb_oi.1 rfl)) (hts _ (tb_mem _ tb_oi.2 rfl)) rfl (hl.1.trans hml.symm) rfl hdg hr3 (Nat.le_trans (Nat.add_le_add_right hroom 12) (Nat.le_trans (by decide) hr4)) ?_
          exact W.eq (g2 := F0 m (pc + 3) ls stk) rfl (hs _ List.mem_cons_self _ _ _ _ ⟨ws, lv, hl, g1, h2, h3, hP, hD, hS, hE, hZ⟩)
      · cases h
    · cases h
  · exact so_invV (sp := true) X hd1 hd2 hg hdg h hs
theorem so_stat {idx : Nat} {st : ri_S} {sts : List ri_S} (X : ri_X p R s m args meth c D A H0 σ b Z nL cc o sc ini rc rs) (hd1 : d + 1 ≤ R.frames) (hd2 : 64 * (d + 1) ≤ R.locals) (hg : ri_good l d call) (hdg : decode cc st.1 = .ok (.invokestatic idx, 3)) (h : ri_stat o rc rs call idx st = some sts) (hs : ∀ t ∈ sts, ri_W p l e R s m args below meth c Q D A H0 σ b Z nL t) : ri_W p l e R s m args below meth c Q D A H0 σ b Z nL st := by
  unfold ri_stat at h
  split at h
  · rename_i nest pp hlk
    have h1 := List.all_eq_true.mp (tb_l_all o) _ (rk_mem hlk)
    unfold ri_lok at h1
    dsimp only at h1
    rw [decide_eq_true_eq] at h1
    exact so_copy X (tb_mem _ h1 rfl) hdg h hs
  · exact so_invS X hd1 hd2 hg hdg h hs
end RS9
