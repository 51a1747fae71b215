/-! the step is sound: stores into arrays, new arrays, copies -/
theorem sub_ok {X Y : Int × Int} {z : Int} (h : ri_sub X Y = true) (hz : ri_i X z) : ri_i Y z := by
  unfold ri_sub at h
  rw [Bool.and_eq_true, decide_eq_true_eq, decide_eq_true_eq] at h
  exact ⟨by have := hz.1; omega, by have := hz.2; omega⟩
theorem nar8 {x : Int32} (h1 : -128 ≤ x.toInt) (h2 : x.toInt ≤ 127) : vp_nar .byte x = x := by
  rw [vp_nar_byte]
  refine Int32.toInt_inj.mp ?_
  rw [Int8.toInt_toInt32, Int32.toInt_toInt8]
  exact Int.bmod_eq_of_le (m := 256) (by omega) (by omega)
theorem nar1 {x : Int32} (h1 : 0 ≤ x.toInt) (h2 : x.toInt ≤ 1) : vp_nar .boolean x = x := by
  rcases i32_01 h1 h2 with rfl | rfl
  · rfl
  · rfl
section RS5
variable {p : Program} {l : Launch} {e : Env} {R : Room} {s : State} {m : MethodId} {args : Array Value} {below : List Frame} {meth : Method} {c : Code} {Q : State → Prop} {D : va_G} {A : Nat → Prop} {H0 : Heap} {σ : Nat → Int} {b nL : Nat} {Z : List Nat} {cc : ByteArray} {o : Nat} {sc : Option Nat} {ini : Bool} {rc rs : Nat}
/-- behind a store of ints -/
theorem st_fin {pc : Nat} {lo : List (Nat × ri_V)} {sk : List ri_V} {hp : List ri_C} {E : ri_E} {cs ss : Nat} {ls : Array Slot} {stk : List Value} {ws : va_W} {lv : List (Nat × Value)} {qq a nn gg : Nat} {pre : List (Int × Int)} {df v : Int × Int} {cA : ClassId} {f : Nat → Int32} {ki kv : Int32} {X : Int × Int} {c2 : ri_C}
    (hc2 : c2 = .inr (.inl (gg, nn, (ri_up pre df X.1.toNat X.2.toNat v).1, (ri_up pre df X.1.toNat X.2.toNat v).2)))
    (hs : ri_W p l e R s m args below meth c Q D A H0 σ b Z nL (pc + 1, lo, sk, hp.set qq c2, E, cs, ss)) (hl : lv_has ls nL lv) (h1 : ri_lo (ws.map Prod.fst) σ b lo lv) (h2 : ri_2 (ri_g (ws.map Prod.fst) σ b) sk stk) (h3 : ri_hp s (ws.map Prod.fst) σ b hp ws) (hE : ri_Eok σ E) (hZ : Z <+: ws.map Prod.fst)
    (g1 : ws[qq]? = some (a, .inl (cA, nn, .inl f))) (g3 : gg < 3) (g4 : ArrOfT s cA (ri_ft gg) ∧ va_RA s cA (ri_ft gg)) (g5 : ∀ j, j < nn → ri_i (ri_el pre df j) (f j).toInt) (i2 : X.1.toNat ≤ ki.toNatClampNeg) (i3 : ki.toNatClampNeg ≤ X.2.toNat) (hv : ri_i v kv.toInt) :
    ∀ (H1 : Heap) (locs1 : List Loc), va_P D vwCl (ws.set qq (a, .inl (cA, nn, .inl (upd f ki.toNatClampNeg kv)))) H1 → va_D A (ws.set qq (a, .inl (cA, nn, .inl (upd f ki.toNatClampNeg kv)))) → va_S A H0 H1 locs1 → W p l e R s m args below meth c H1 locs1 cs ss Q (F0 m (pc + 1) ls stk) := by
  intro H1 locs1 hP1 hD1 hS1
  have hmap := fst_set (e1 := .inl (cA, nn, .inl (upd f ki.toNatClampNeg kv))) g1
  refine hs ls stk H1 locs1 ⟨ws.set qq (a, .inl (cA, nn, .inl (upd f ki.toNatClampNeg kv))), lv, hl, ?_, ?_, ?_, hP1, hD1, hS1, hE, by rw [hmap]; exact hZ⟩
  · rw [hmap]; exact h1
  · rw [hmap]; exact h2
  · rw [hmap]
    refine r2_set qq h3 ?_
    rw [hc2]
    refine Or.inl ⟨cA, _, rfl, g3, g4, ?_⟩
    exact up_ok (f := fun j => (f j).toInt) i2 i3 hv g5 (fun j => by
      show (if j = ki.toNatClampNeg then kv else f j).toInt = _
      split <;> rfl)
theorem st_finL {pc : Nat} {lo : List (Nat × ri_V)} {sk : List ri_V} {hp : List ri_C} {E : ri_E} {cs ss : Nat} {ls : Array Slot} {stk : List Value} {ws : va_W} {lv : List (Nat × Value)} {qq a nn : Nat} {pre : List (Int × Int)} {df v : Int × Int} {cA : ClassId} {f : Nat → Int64} {ki : Int32} {kv : Int64} {X : Int × Int} {c2 : ri_C}
    (hc2 : c2 = .inr (.inl (3, nn, (ri_up pre df X.1.toNat X.2.toNat v).1, (ri_up pre df X.1.toNat X.2.toNat v).2)))
    (hs : ri_W p l e R s m args below meth c Q D A H0 σ b Z nL (pc + 1, lo, sk, hp.set qq c2, E, cs, ss)) (hl : lv_has ls nL lv) (h1 : ri_lo (ws.map Prod.fst) σ b lo lv) (h2 : ri_2 (ri_g (ws.map Prod.fst) σ b) sk stk) (h3 : ri_hp s (ws.map Prod.fst) σ b hp ws) (hE : ri_Eok σ E) (hZ : Z <+: ws.map Prod.fst)
    (g1 : ws[qq]? = some (a, .inl (cA, nn, .inr (.inl f)))) (g4 : ArrOfT s cA .long ∧ va_RA s cA .long) (g5 : ∀ j, j < nn → ri_i (ri_el pre df j) (f j).toInt) (i2 : X.1.toNat ≤ ki.toNatClampNeg) (i3 : ki.toNatClampNeg ≤ X.2.toNat) (hv : ri_i v kv.toInt) :
    ∀ (H1 : Heap) (locs1 : List Loc), va_P D vwCl (ws.set qq (a, .inl (cA, nn, .inr (.inl (vp_updL f ki.toNatClampNeg kv))))) H1 → va_D A (ws.set qq (a, .inl (cA, nn, .inr (.inl (vp_updL f ki.toNatClampNeg kv))))) → va_S A H0 H1 locs1 → W p l e R s m args below meth c H1 locs1 cs ss Q (F0 m (pc + 1) ls stk) := by
  intro H1 locs1 hP1 hD1 hS1
  have hmap := fst_set (e1 := .inl (cA, nn, .inr (.inl (vp_updL f ki.toNatClampNeg kv)))) g1
  refine hs ls stk H1 locs1 ⟨ws.set qq (a, .inl (cA, nn, .inr (.inl (vp_updL f ki.toNatClampNeg kv)))), lv, hl, ?_, ?_, ?_, hP1, hD1, hS1, hE, by rw [hmap]; exact hZ⟩
  · rw [hmap]; exact h1
  · rw [hmap]; exact h2
  · rw [hmap]
    refine r2_set qq h3 ?_
    rw [hc2]
    refine Or.inr ⟨cA, _, rfl, rfl, g4, ?_⟩
    exact up_ok (f := fun j => (f j).toInt) i2 i3 hv g5 (fun j => by
      show (if j = ki.toNatClampNeg then kv else f j).toInt = _
      split <;> rfl)
theorem so_ist {tags : List Nat} {ins : Instr} {st : ri_S} {sts : List ri_S} (X : ri_X p R s m args meth c D A H0 σ b Z nL cc o sc ini rc rs) (htag : (ins = .iastore ∧ tags = [0]) ∨ (ins = .bastore ∧ tags = [1, 2])) (hdg : decode cc st.1 = .ok (ins, 1)) (h : ri_ist tags st = some sts) (hs : ∀ t ∈ sts, ri_W p l e R s m args below meth c Q D A H0 σ b Z nL t) : ri_W p l e R s m args below meth c Q D A H0 σ b Z nL st := by
  obtain ⟨hx, hb, hml, hown, hts, hK, hA, hini, hsc, -⟩ := X
  obtain ⟨pc, lo, sk, hp, E, cs, ss⟩ := st
  intro ls stk H locs ⟨ws, lv, hl, h1, h2, h3, hP, hD, hS, hE, hZ⟩
  unfold ri_ist at h
  split at h
  · rename_i _ _ xv ix qq sk' _ _ _ _ hst
    cases hst
    split at h
    · cases h
    · rename_i cl hq
      split at h
      · cases h
      · rename_i c2 hv
        cases h
        match stk, h2 with
        | [], h2 => exact h2.elim
        | [_], h2 => exact h2.2.elim
        | [_, _], h2 => exact h2.2.2.elim
        | vv :: vi :: va :: stk, ⟨⟨kv, ev, gv⟩, ⟨ki, ei, gi⟩, ⟨a, ha, ea⟩, h2⟩ =>
          subst ev
          subst ei
          subst ea
          obtain ⟨e1, g1, g2⟩ := at_ref h3 ha hq
          unfold ri_nst at hv
          split at hv
          · rename_i gg nn pre df
            split at hv
            · cases hv
            · rename_i hk
              rw [Bool.and_eq_true, Bool.and_eq_true] at hk
              obtain ⟨k1, k2, k3⟩ := hk
              have hbv := rn_iv hE gv
              obtain ⟨i1, i2, i3, i4⟩ := in_ok k2 (rn_iv hE gi)
              have hc2 : c2 = .inr (.inl (gg, nn, (ri_up pre df (ri_iv E ix).1.toNat (ri_iv E ix).2.toNat (ri_iv E xv)).1, (ri_up pre df (ri_iv E ix).1.toNat (ri_iv E ix).2.toNat (ri_iv E xv)).2)) := by
                cases hv
                rfl
              rcases g2 with ⟨cA, f, rfl, g3, g4, g5⟩ | ⟨cA, f, rfl, g3, g4, g5⟩
              · have fin := st_fin hc2 (hs _ List.mem_cons_self) hl h1 h2 h3 hE hZ g1 g3 g4 g5 i2 i3 hbv
                rcases htag with ⟨rfl, rfl⟩ | ⟨rfl, rfl⟩
                · have hgg : gg = 0 := by simpa using k1
                  subst hgg
                  exact va_iast (f := f) hx hb (vK1 hK g4) hP hD hS qq 0 g1 rfl i1 hdg fin
                · have hgg : gg = 1 ∨ gg = 2 := by simpa using k1
                  rcases hgg with rfl | rfl
                  · have hz := sub_ok k3 hbv
                    refine va_bast (f := f) hx hb (vK1 hK g4) hP hD hS qq 0 g1 rfl i1 hdg ?_
                    rw [nar8 hz.1 hz.2]
                    exact fin
                  · have hz := sub_ok k3 hbv
                    refine va_zast (f := f) hx hb (vK1 hK g4) hP hD hS qq 0 g1 rfl i1 hdg ?_
                    rw [nar1 hz.1 hz.2]
                    exact fin
              · subst g3
                rcases htag with ⟨-, rfl⟩ | ⟨-, rfl⟩
                · exact absurd k1 (by decide)
                · exact absurd k1 (by decide)
          · cases hv
  · cases h
theorem so_lst {st : ri_S} {sts : List ri_S} (X : ri_X p R s m args meth c D A H0 σ b Z nL cc o sc ini rc rs) (hdg : decode cc st.1 = .ok (.lastore, 1)) (h : ri_lst st = some sts) (hs : ∀ t ∈ sts, ri_W p l e R s m args below meth c Q D A H0 σ b Z nL t) : ri_W p l e R s m args below meth c Q D A H0 σ b Z nL st := by
  obtain ⟨hx, hb, hml, hown, hts, hK, hA, hini, hsc, -⟩ := X
  obtain ⟨pc, lo, sk, hp, E, cs, ss⟩ := st
  intro ls stk H locs ⟨ws, lv, hl, h1, h2, h3, hP, hD, hS, hE, hZ⟩
  unfold ri_lst at h
  split at h
  · rename_i _ _ xv ix qq sk' _ _ _ _ hst
    cases hst
    split at h
    · cases h
    · rename_i cl hq
      split at h
      · cases h
      · rename_i c2 hv
        cases h
        match stk, h2 with
        | [], h2 => exact h2.elim
        | [_], h2 => exact h2.2.elim
        | [_, _], h2 => exact h2.2.2.elim
        | vv :: vi :: va :: stk, ⟨⟨kv, ev, gv⟩, ⟨ki, ei, gi⟩, ⟨a, ha, ea⟩, h2⟩ =>
          subst ev
          subst ei
          subst ea
          obtain ⟨e1, g1, g2⟩ := at_ref h3 ha hq
          unfold ri_nst at hv
          split at hv
          · rename_i gg nn pre df
            split at hv
            · cases hv
            · rename_i hk
              rw [Bool.and_eq_true, Bool.and_eq_true] at hk
              obtain ⟨k1, k2, k3⟩ := hk
              have hbv := rn_iv hE gv
              obtain ⟨i1, i2, i3, i4⟩ := in_ok k2 (rn_iv hE gi)
              have hgg : gg = 3 := by simpa using k1
              subst hgg
              have hc2 : c2 = .inr (.inl (3, nn, (ri_up pre df (ri_iv E ix).1.toNat (ri_iv E ix).2.toNat (ri_iv E xv)).1, (ri_up pre df (ri_iv E ix).1.toNat (ri_iv E ix).2.toNat (ri_iv E xv)).2)) := by
                cases hv
                rfl
              rcases g2 with ⟨cA, f, rfl, g3, g4, g5⟩ | ⟨cA, f, rfl, g3, g4, g5⟩
              · exact absurd g3 (by decide)
              · exact va_last (f := f) hx hb (vK1 hK g4) hP hD hS qq 0 g1 rfl i1 hdg (st_finL hc2 (hs _ List.mem_cons_self) hl h1 h2 h3 hE hZ g1 g4 g5 i2 i3 hbv)
          · cases hv
  · cases h
theorem so_ast {st : ri_S} {sts : List ri_S} (X : ri_X p R s m args meth c D A H0 σ b Z nL cc o sc ini rc rs) (hdg : decode cc st.1 = .ok (.aastore, 1)) (h : ri_ast st = some sts) (hs : ∀ t ∈ sts, ri_W p l e R s m args below meth c Q D A H0 σ b Z nL t) : ri_W p l e R s m args below meth c Q D A H0 σ b Z nL st := by
  obtain ⟨hx, hb, hml, hown, hts, hK, hA, hini, hsc, -⟩ := X
  obtain ⟨pc, lo, sk, hp, E, cs, ss⟩ := st
  intro ls stk H locs ⟨ws, lv, hl, h1, h2, h3, hP, hD, hS, hE, hZ⟩
  unfold ri_ast at h
  split at h
  · rename_i _ _ rr ix qq sk' _ _ _ _ hst
    cases hst
    split at h
    · rename_i ci els c1 fs va vb hq hr hiv
      split at h
      · cases h
      · rename_i hk
        cases h
        rw [Bool.and_eq_true, Bool.and_eq_true, decide_eq_true_eq] at hk
        obtain ⟨k1, k2, k3⟩ := hk
        have hc := Nat.eq_of_beq_eq_true k1
        subst hc
        match stk, h2 with
        | [], h2 => exact h2.elim
        | [_], h2 => exact h2.2.elim
        | [_, _], h2 => exact h2.2.2.elim
        | vv :: vi :: vr :: stk, ⟨⟨a2, ha2, ea2⟩, ⟨ki, ei, gi⟩, ⟨a, ha, ea⟩, h2⟩ =>
          subst ea2
          subst ei
          subst ea
          obtain ⟨e1, g1, cA, f, r, rfl, g2, g3, g4⟩ := at_ref h3 ha hq
          obtain ⟨e2, g5, vs, rfl, g6⟩ := at_ref h3 ha2 hr
          have hbi := rn_iv hE gi
          rw [hiv] at hbi
          obtain ⟨i1, i2, i3, i4⟩ := in_ok k3 hbi
          dsimp only at hbi i2 i3
          have hki : ki.toNatClampNeg = va.toNat := by rw [cl_toNat]; omega
          refine va_astq (f := f) hx hb (vK1 hK g3) hP hD hS qq 0 rr c1 g1 rfl g5 g2 i1 hdg (fun H1 locs1 hP1 hD1 hS1 => ?_)
          have hmap := fst_set (e1 := .inl (cA, els.length, .inr (.inr (.inr (.inr (va_up f ki.toNatClampNeg (some a2))))))) g1
          refine hs _ List.mem_cons_self _ _ _ _ ⟨_, lv, hl, ?_, ?_, ?_, hP1, hD1, hS1, hE, by rw [hmap]; exact hZ⟩
          · rw [hmap]; exact h1
          · rw [hmap]; exact h2
          · rw [hmap]
            refine r2_set qq h3 ⟨cA, _, r, by rw [List.length_set], g2, g3, fun j el hj => ?_⟩
            rw [hki]
            unfold va_up
            by_cases hji : j = va.toNat
            · subst hji
              rw [List.getElem?_set_self (by rw [← hki]; exact i4)] at hj
              cases hj
              rw [if_pos rfl]
              exact ⟨a2, ha2, rfl⟩
            · rw [List.getElem?_set_ne (Ne.symm hji)] at hj
              rw [if_neg hji]
              exact g4 j el hj
    · cases h
  · cases h
end RS5
theorem alds_mem {σ : Nat → Int} {E : ri_E} {x : ri_N} {mk : Option Nat → ri_E → ri_S} {z : Int} (hE : ri_Eok σ E) (hx : ri_n σ x z) : ∀ {fs : List (Option Nat)} {v : Int} {k : Nat} {f : Option Nat}, z = v + (k : Int) → fs[k]? = some f → ∃ E1, mk f E1 ∈ ri_alds E x mk v fs ∧ ri_Eok σ E1
  | [], _, _, _, _, h => by simp at h
  | g :: fs, v, 0, f, hz, h => by
    rw [List.getElem?_cons_zero] at h
    cases h
    obtain ⟨E1, e1, k1⟩ := rn_eq hE hx (rn_k σ v) (by omega)
    exact ⟨E1, List.mem_append_left _ (List.mem_map.mpr ⟨E1, ri_opt_mem e1, rfl⟩), k1⟩
  | g :: fs, v, k + 1, f, hz, h => by
    rw [List.getElem?_cons_succ] at h
    obtain ⟨E1, h1, h2⟩ := alds_mem hE hx (v := v + 1) (k := k) (by omega) h
    exact ⟨E1, List.mem_append_right _ h1, h2⟩
section RS6
variable {p : Program} {l : Launch} {e : Env} {R : Room} {s : State} {m : MethodId} {args : Array Value} {below : List Frame} {meth : Method} {c : Code} {Q : State → Prop} {D : va_G} {A : Nat → Prop} {H0 : Heap} {σ : Nat → Int} {b nL : Nat} {Z : List Nat} {cc : ByteArray} {o : Nat} {sc : Option Nat} {ini : Bool} {rc rs : Nat}
theorem so_ald {st : ri_S} {sts : List ri_S} (X : ri_X p R s m args meth c D A H0 σ b Z nL cc o sc ini rc rs) (hdg : decode cc st.1 = .ok (.aaload, 1)) (h : ri_ald st = some sts) (hs : ∀ t ∈ sts, ri_W p l e R s m args below meth c Q D A H0 σ b Z nL t) : ri_W p l e R s m args below meth c Q D A H0 σ b Z nL st := by
  obtain ⟨hx, hb, hml, hown, hts, hK, hA, hini, hsc, -⟩ := X
  obtain ⟨pc, lo, sk, hp, E, cs, ss⟩ := st
  intro ls stk H locs ⟨ws, lv, hl, h1, h2, h3, hP, hD, hS, hE, hZ⟩
  unfold ri_ald at h
  split at h
  · rename_i _ _ ix qq sk' _ _ _ _ hst
    cases hst
    split at h
    · rename_i ci els hq
      split at h
      · cases h
      · rename_i hk
        cases h
        match stk, h2 with
        | [], h2 => exact h2.elim
        | [_], h2 => exact h2.2.elim
        | vi :: vr :: stk, ⟨⟨ki, ei, gi⟩, ⟨a, ha, ea⟩, h2⟩ =>
          subst ei
          subst ea
          obtain ⟨e1, g1, cA, f, r, rfl, g2, g3, g4⟩ := at_ref h3 ha hq
          have hbi := rn_iv hE gi
          obtain ⟨i1, i2, i3, i4⟩ := in_ok hk hbi
          have hnn : 0 ≤ ki.toInt := (vp_in_iff.mp i1).1
          obtain ⟨el, hel⟩ : ∃ el, els[ki.toNatClampNeg]? = some el := ⟨_, List.getElem?_eq_getElem i4⟩
          obtain ⟨E1, m1, m2⟩ := alds_mem (mk := fun f E1 => (pc + 1, lo, .inr (.inr (.inl f)) :: sk', hp, E1, cs, ss)) hE gi (v := 0) (k := ki.toNatClampNeg) (by rw [cl_toNat]; omega) hel
          refine va_aldq (f := f) hx hb (vK1 hK g3) hP qq 0 g1 rfl i1 hdg ?_
          refine hs _ m1 _ _ _ _ ⟨ws, lv, hl, h1, ⟨?_, h2⟩, h3, hP, hD, hS, m2, hZ⟩
          have g5 := g4 _ el hel
          cases el with
          | none =>
            have g5 : f ki.toNatClampNeg = none := g5
            rw [g5]
            rfl
          | some q2 =>
            obtain ⟨a2, ha2, g6⟩ := g5
            rw [g6]
            exact ⟨a2, ha2, rfl⟩
    · cases h
  · cases h
theorem so_len {st : ri_S} {sts : List ri_S} (X : ri_X p R s m args meth c D A H0 σ b Z nL cc o sc ini rc rs) (hdg : decode cc st.1 = .ok (.arraylength, 1)) (h : ri_len sc st = some sts) (hs : ∀ t ∈ sts, ri_W p l e R s m args below meth c Q D A H0 σ b Z nL t) : ri_W p l e R s m args below meth c Q D A H0 σ b Z nL st := by
  obtain ⟨hx, hb, hml, hown, hts, hK, hA, hini, hsc, -⟩ := X
  obtain ⟨pc, lo, sk, hp, E, cs, ss⟩ := st
  intro ls stk H locs ⟨ws, lv, hl, h1, h2, h3, hP, hD, hS, hE, hZ⟩
  have key : ∀ nn : Nat, nn ≤ 10000 → ri_n σ (ri_k (nn : Int)) (Int32.ofNat nn).toInt := fun nn hn => by
    have e1 : (Int32.ofNat nn).toInt = (nn : Int) := nI_toInt (n := nn) (by omega)
    rw [e1]
    exact rn_k σ _
  unfold ri_len at h
  split at h
  · rename_i _ _ qq sk' _ _ _ _ hst
    cases hst
    split at h
    · rename_i gg nn pre df hq
      split at h
      · rename_i hk
        cases h
        have hk := Nat.le_of_ble_eq_true hk
        match stk, h2 with
        | [], h2 => exact h2.elim
        | vr :: stk, ⟨⟨a, ha, ea⟩, h2⟩ =>
          subst ea
          obtain ⟨e1, g1, g2⟩ := at_ref h3 ha hq
          rcases g2 with ⟨cA, f, rfl, g3, g4, g5⟩ | ⟨cA, f, rfl, g3, g4, g5⟩
          · exact va_alen hx hb (vK1 hK g4) hP qq 0 g1 rfl rfl hdg (hs _ List.mem_cons_self _ _ _ _ ⟨ws, lv, hl, h1, ⟨⟨_, rfl, key nn hk⟩, h2⟩, h3, hP, hD, hS, hE, hZ⟩)
          · exact va_alen hx hb (vK1 hK g4) hP qq 0 g1 rfl rfl hdg (hs _ List.mem_cons_self _ _ _ _ ⟨ws, lv, hl, h1, ⟨⟨_, rfl, key nn hk⟩, h2⟩, h3, hP, hD, hS, hE, hZ⟩)
      · cases h
    · cases h
  · rename_i _ _ uu sk' _ _ _ _ hst
    cases hst
    split at h
    · rename_i nn
      split at h
      · rename_i hk
        cases h
        have hk := Nat.le_of_ble_eq_true hk
        obtain ⟨xs, x1, x2, x3, x4⟩ := hsc
        match stk, h2 with
        | [], h2 => exact h2.elim
        | vr :: stk, ⟨hr, h2⟩ =>
          have hr : vr = .ref b := hr
          subst hr
          exact va_slen hx hb x1 x2 x3 hS hdg (hs _ List.mem_cons_self _ _ _ _ ⟨ws, lv, hl, h1, ⟨⟨_, rfl, key nn hk⟩, h2⟩, h3, hP, hD, hS, hE, hZ⟩)
      · cases h
    · cases h
  · cases h
end RS6
