/-! the step is sound: new arrays, copies, the constructor of Object -/
theorem el_z {pre : List (Int × Int)} (h : ∀ x ∈ pre, x = ((0 : Int), (0 : Int))) (j : Nat) : ri_i (ri_el pre (0, 0) j) 0 := by
  unfold ri_el
  rw [List.getD_eq_getElem?_getD]
  cases hj : pre[j]? with
  | none => exact ⟨Int.le_refl _, Int.le_refl _⟩
  | some x =>
    rw [h x (List.mem_of_getElem? hj)]
    exact ⟨Int.le_refl _, Int.le_refl _⟩
section RS7
variable {p : Program} {l : Launch} {e : Env} {R : Room} {s : State} {m : MethodId} {args : Array Value} {below : List Frame} {meth : Method} {c : Code} {Q : State → Prop} {D : va_G} {A : Nat → Prop} {H0 : Heap} {σ : Nat → Int} {b nL : Nat} {Z : List Nat} {cc : ByteArray} {o : Nat} {sc : Option Nat} {ini : Bool} {rc rs : Nat}
/-- a new cell at the end of the world -/
theorem new_fin {pc1 : Nat} {lo : List (Nat × ri_V)} {sk : List ri_V} {hp : List ri_C} {E : ri_E} {cs ss : Nat} {ls : Array Slot} {stk : List Value} {ws : va_W} {lv : List (Nat × Value)} {qa : Nat} {ce : va_E} {c2 : ri_C} {H1 : Heap} {locs : List Loc}
    (hs : ri_W p l e R s m args below meth c Q D A H0 σ b Z nL (pc1, lo, .inr (.inr (.inl (some hp.length))) :: sk, hp ++ [c2], E, cs, ss)) (hl : lv_has ls nL lv) (h1 : ri_lo (ws.map Prod.fst) σ b lo lv) (h2 : ri_2 (ri_g (ws.map Prod.fst) σ b) sk stk) (h3 : ri_hp s (ws.map Prod.fst) σ b hp ws) (hE : ri_Eok σ E) (hZ : Z <+: ws.map Prod.fst)
    (hc : ∀ as, ri_c s as σ b c2 ce) (hP1 : va_P D vwCl (ws ++ [(qa, ce)]) H1) (hD1 : va_D A (ws ++ [(qa, ce)])) (hS1 : va_S A H0 H1 locs) : W p l e R s m args below meth c H1 locs cs ss Q (F0 m pc1 ls (.ref qa :: stk)) := by
  have hm : (ws ++ [(qa, ce)]).map Prod.fst = ws.map Prod.fst ++ [qa] := by rw [List.map_append]; rfl
  have hlen : hp.length = (ws.map Prod.fst).length := by rw [List.length_map]; exact r2_len h3
  refine hs _ _ _ _ ⟨ws ++ [(qa, ce)], lv, hl, ?_, ?_, ?_, hP1, hD1, hS1, hE, by rw [hm]; exact hZ.trans (List.prefix_append _ _)⟩
  · rw [hm]; exact r2_mono (fun _ _ h => ⟨h.1, rg_app h.2⟩) h1
  · rw [hm]; exact ⟨⟨qa, by rw [hlen]; simp, rfl⟩, r2_mono (fun _ _ h => rg_app h) h2⟩
  · rw [hm]
    exact r2_app (show ri_hp s (ws.map Prod.fst ++ [qa]) σ b [c2] [(qa, ce)] from ⟨hc _, trivial⟩) (r2_mono (fun _ _ h => rc_app h) h3)
theorem so_newa {t : ArrayType} {st : ri_S} {sts : List ri_S} (X : ri_X p R s m args meth c D A H0 σ b Z nL cc o sc ini rc rs) (hdg : decode cc st.1 = .ok (.newarray t, 2)) (h : ri_newa rc rs t st = some sts) (hs : ∀ t ∈ sts, ri_W p l e R s m args below meth c Q D A H0 σ b Z nL t) : ri_W p l e R s m args below meth c Q D A H0 σ b Z nL st := by
  obtain ⟨hx, hb, hml, hown, hts, hK, hA, hini, hsc, ⟨hr1, hr2⟩, -⟩ := X
  obtain ⟨pc, lo, sk, hp, E, cs, ss⟩ := st
  intro ls stk H locs ⟨ws, lv, hl, h1, h2, h3, hP, hD, hS, hE, hZ⟩
  unfold ri_newa at h
  split at h
  · rename_i _ _ ix sk' _ _ _ _ hst
    cases hst
    split at h
    · rename_i va vb gg hiv hg
      split at h
      · cases h
      · rename_i hk
        cases h
        rw [Bool.and_eq_true, Bool.and_eq_true, Bool.and_eq_true, Bool.and_eq_true, decide_eq_true_eq, decide_eq_true_eq] at hk
        obtain ⟨k1, k2, k3, k4, k5⟩ := hk
        have k3 := Nat.le_of_ble_eq_true k3
        have k4 := Nat.le_of_ble_eq_true k4
        have k5 := Nat.le_of_ble_eq_true k5
        match stk, h2 with
        | [], h2 => exact h2.elim
        | vi :: stk, ⟨⟨ki, ei, gi⟩, h2⟩ =>
          subst ei
          have hbi := rn_iv hE gi
          rw [hiv] at hbi
          dsimp only at hbi
          have hki : ki.toNatClampNeg = va.toNat := by rw [cl_toNat]; omega
          have hnn : ¬ ki < 0 := fun z => by have := Int32.lt_iff_toInt_lt.mp z; rw [z0] at this; omega
          have hs0 := hs _ List.mem_cons_self
          cases t with
          | int =>
            cases hg
            refine va_newa (atype := .int) (ty := .int) (a0 := (va.toNat, .inl (fun _ => 0))) hx hb (hts _ (tb_mem _ tb_ac.2.1 rfl)) rfl hK hP hD hS hA (fun _ => rfl) hnn hki (by show va.toNat * 4 ≤ 536870912; omega) (by rw [hr1]; exact k4) (by rw [hr2]; exact k5) hdg (fun qa cA H1 hK1 hP1 hD1 hS1 => ?_)
            exact new_fin hs0 hl h1 h2 h3 hE hZ (fun as => Or.inl ⟨cA, fun _ => 0, rfl, by decide, hK1.2 0 _ rfl, fun j _ => el_z (fun x hx => by
              split at hx
              · exact (List.mem_replicate.mp hx).2
              · exact absurd hx List.not_mem_nil) j⟩) hP1 hD1 hS1
          | byte =>
            cases hg
            refine va_newa (atype := .byte) (ty := .byte) (a0 := (va.toNat, .inl (fun _ => 0))) hx hb (hts _ (tb_mem _ tb_ac.1 rfl)) rfl hK hP hD hS hA (fun _ => rfl) hnn hki (by show va.toNat * 1 ≤ 536870912; omega) (by rw [hr1]; exact k4) (by rw [hr2]; exact k5) hdg (fun qa cA H1 hK1 hP1 hD1 hS1 => ?_)
            exact new_fin hs0 hl h1 h2 h3 hE hZ (fun as => Or.inl ⟨cA, fun _ => 0, rfl, by decide, hK1.2 0 _ rfl, fun j _ => el_z (fun x hx => by
              split at hx
              · exact (List.mem_replicate.mp hx).2
              · exact absurd hx List.not_mem_nil) j⟩) hP1 hD1 hS1
          | boolean =>
            cases hg
            refine va_newa (atype := .boolean) (ty := .boolean) (a0 := (va.toNat, .inl (fun _ => 0))) hx hb (hts _ (tb_mem _ tb_ac.2.2.1 rfl)) rfl hK hP hD hS hA (fun _ => rfl) hnn hki (by show va.toNat * 1 ≤ 536870912; omega) (by rw [hr1]; exact k4) (by rw [hr2]; exact k5) hdg (fun qa cA H1 hK1 hP1 hD1 hS1 => ?_)
            exact new_fin hs0 hl h1 h2 h3 hE hZ (fun as => Or.inl ⟨cA, fun _ => 0, rfl, by decide, hK1.2 0 _ rfl, fun j _ => el_z (fun x hx => by
              split at hx
              · exact (List.mem_replicate.mp hx).2
              · exact absurd hx List.not_mem_nil) j⟩) hP1 hD1 hS1
          | long =>
            cases hg
            refine va_newa (atype := .long) (ty := .long) (a0 := (va.toNat, .inr (.inl (fun _ => 0)))) hx hb (hts _ (tb_mem _ tb_ac.2.2.2 rfl)) rfl hK hP hD hS hA (fun _ => rfl) hnn hki (by show va.toNat * 8 ≤ 536870912; omega) (by rw [hr1]; exact k4) (by rw [hr2]; exact k5) hdg (fun qa cA H1 hK1 hP1 hD1 hS1 => ?_)
            exact new_fin hs0 hl h1 h2 h3 hE hZ (fun as => Or.inr ⟨cA, fun _ => 0, rfl, rfl, hK1.2 0 _ rfl, fun j _ => el_z (fun x hx => by
              split at hx
              · exact (List.mem_replicate.mp hx).2
              · exact absurd hx List.not_mem_nil) j⟩) hP1 hD1 hS1
          | char => cases hg
          | float => cases hg
          | double => cases hg
          | short => cases hg
    · cases h
  · cases h
theorem so_newq {idx : Nat} {st : ri_S} {sts : List ri_S} (X : ri_X p R s m args meth c D A H0 σ b Z nL cc o sc ini rc rs) (hdg : decode cc st.1 = .ok (.anewarray idx, 3)) (h : ri_newq o rc rs idx st = some sts) (hs : ∀ t ∈ sts, ri_W p l e R s m args below meth c Q D A H0 σ b Z nL t) : ri_W p l e R s m args below meth c Q D A H0 σ b Z nL st := by
  obtain ⟨hx, hb, hml, hown, hts, hK, hA, hini, hsc, ⟨hr1, hr2⟩, -⟩ := X
  obtain ⟨pc, lo, sk, hp, E, cs, ss⟩ := st
  intro ls stk H locs ⟨ws, lv, hl, h1, h2, h3, hP, hD, hS, hE, hZ⟩
  unfold ri_newq at h
  split at h
  · rename_i _ _ ix sk' _ _ _ _ hst
    cases hst
    split at h
    · rename_i va vb ci rr hiv hc
      split at h
      · cases h
      · rename_i hk
        cases h
        rw [Bool.and_eq_true, Bool.and_eq_true, Bool.and_eq_true, Bool.and_eq_true, Bool.and_eq_true, decide_eq_true_eq, decide_eq_true_eq] at hk
        obtain ⟨k1, k2, k3, k4, k5, k6⟩ := hk
        have k3 := Nat.le_of_ble_eq_true k3
        have k4 := Nat.le_of_ble_eq_true k4
        have k5 := Nat.le_of_ble_eq_true k5
        obtain ⟨⟨C, T, N⟩, f1, f2, f3, f4⟩ := tb_c_mem hc
        match stk, h2 with
        | [], h2 => exact h2.elim
        | vi :: stk, ⟨⟨ki, ei, gi⟩, h2⟩ =>
          subst ei
          have hbi := rn_iv hE gi
          rw [hiv] at hbi
          dsimp only at hbi
          have hki : ki.toNatClampNeg = va.toNat := by rw [cl_toNat]; omega
          have hnn : ¬ ki < 0 := fun z => by have := Int32.lt_iff_toInt_lt.mp z; rw [z0] at this; omega
          refine va_newq hx hb hown (hts _ f2) (va_AO.of (hts _ (tb_ao_mem f1 k6))) hK hP hD hS hA hnn hki (by omega) (by rw [hr1]; exact k4) (by rw [hr2]; exact k5) hdg (fun qa cA H1 hK1 hP1 hD1 hS1 => ?_)
          refine new_fin (hs _ List.mem_cons_self) hl h1 h2 h3 hE hZ (fun as => ⟨cA, fun _ => none, (C, T, N), by rw [List.length_replicate], f1, hK1.2 0 _ rfl, fun j el hj => ?_⟩) hP1 hD1 hS1
          rw [List.getElem?_replicate] at hj
          split at hj
          · cases hj; rfl
          · cases hj
    · cases h
  · cases h
theorem so_copy {idx : Nat} {st : ri_S} {sts : List ri_S} (X : ri_X p R s m args meth c D A H0 σ b Z nL cc o sc ini rc rs) (hlink : Cond.methodLink (ri_own o) idx arraycopyName ∈ tb) (hdg : decode cc st.1 = .ok (.invokestatic idx, 3)) (h : ri_copy st = some sts) (hs : ∀ t ∈ sts, ri_W p l e R s m args below meth c Q D A H0 σ b Z nL t) : ri_W p l e R s m args below meth c Q D A H0 σ b Z nL st := by
  obtain ⟨hx, hb, hml, hown, hts, hK, hA, hini, hsc, hr, hr3, hr4⟩ := X
  obtain ⟨pc, lo, sk, hp, E, cs, ss⟩ := st
  intro ls stk H locs ⟨ws, lv, hl, h1, h2, h3, hP, hD, hS, hE, hZ⟩
  unfold ri_copy at h
  split at h
  · rename_i _ _ xn xd q1 xp q0 sk' _ _ _ _ hst
    cases hst
    split at h
    · rename_i g0 n0 p0 d0 gg1 n1 p1 d1 hq0 hq1
      split at h
      · cases h
      · rename_i hk
        cases h
        simp only [Bool.and_eq_true, decide_eq_true_eq] at hk
        obtain ⟨k1, k2, k3, k4, k5, k6, k7, k8⟩ := hk
        have k1 := Nat.eq_of_beq_eq_true k1
        have k2 := Nat.eq_of_beq_eq_true k2
        subst k1
        subst k2
        have k8 := Nat.le_of_ble_eq_true k8
        match stk, h2 with
        | [], h2 => exact h2.elim
        | [_], h2 => exact h2.2.elim
        | [_, _], h2 => exact h2.2.2.elim
        | [_, _, _], h2 => exact h2.2.2.2.elim
        | [_, _, _, _], h2 => exact h2.2.2.2.2.elim
        | vn :: vd :: v1 :: vp :: v0 :: stk, ⟨⟨kn, en, gn⟩, ⟨kd, ed, gd⟩, ⟨a1, ha1, ea1⟩, ⟨kp, ep, gp⟩, ⟨a0, ha0, ea0⟩, h2⟩ =>
          subst en
          subst ed
          subst ea1
          subst ep
          subst ea0
          have bn : ri_i (ri_iv E xn) kn.toInt := rn_iv hE gn
          have bd : ri_i (ri_iv E xd) kd.toInt := rn_iv hE gd
          have bp : ri_i (ri_iv E xp) kp.toInt := rn_iv hE gp
          obtain ⟨e0, w0, c0⟩ := at_ref h3 ha0 hq0
          obtain ⟨e1, w1, c1⟩ := at_ref h3 ha1 hq1
          rcases c0 with ⟨cA0, f0, rfl, -, t0, u0⟩ | ⟨cA0, f0, rfl, zz, -⟩
          · rcases c1 with ⟨cA1, f1, rfl, -, t1, u1⟩ | ⟨cA1, f1, rfl, zz, -⟩
            · have hsum : (stk.map fun v => v.category).sum = ri_w sk' := rg_w h2
              have hneg : ∀ k : Int32, 0 ≤ k.toInt → ¬ k < 0 := fun k hk z => by have := Int32.lt_iff_toInt_lt.mp z; rw [z0] at this; omega
              refine va_copyi (f := f0) (g := f1) (ty := .int) hx hb (hml.trans hl.1.symm) hown (hts _ hlink) (hts _ (tb_mem _ tb_cp.1 rfl)) (hts _ (tb_mem _ tb_cp.2.1 rfl)) (hts _ (tb_mem _ tb_cp.2.2 rfl)) (vK2 hK t0 t1) hP hD hS q0 q1 0 1 w0 w1 rfl rfl rfl (hneg kp (by omega)) (hneg kd (by omega)) (hneg kn (by omega)) (by rw [cl_toNat, cl_toNat]; omega) (by rw [cl_toNat, cl_toNat]; omega) (fun _ _ => rfl) hr3 (Nat.le_trans (by rw [hsum]; exact Nat.add_le_add_right k8 _) (Nat.le_trans (m := 64) (by decide) hr4)) hdg (fun H1 locs1 hP1 hD1 hS1 => ?_)
              have hmap := fst_set (e1 := .inl (cA1, n1, .inl (va_cpy f0 f1 kp.toNatClampNeg kd.toNatClampNeg kn.toNatClampNeg))) w1
              refine hs _ List.mem_cons_self _ _ _ _ ⟨_, lv, hl, ?_, ?_, ?_, hP1, hD1, hS1, hE, by rw [hmap]; exact hZ⟩
              · rw [hmap]; exact h1
              · rw [hmap]; exact h2
              · rw [hmap]
                refine r2_set q1 h3 (Or.inl ⟨cA1, _, rfl, by decide, t1, fun j hj => ?_⟩)
                have e9 : ri_el [] (ri_jn (ri_jnL p0 d0) (ri_jnL p1 d1)) j = ri_jn (ri_jnL p0 d0) (ri_jnL p1 d1) := by
                  unfold ri_el
                  simp
                rw [e9]
                have j1 := jn_l (ri_jnL p0 d0) (ri_jnL p1 d1)
                have j2 := jn_r (ri_jnL p0 d0) (ri_jnL p1 d1)
                unfold va_cpy
                split
                · rename_i hin
                  have hb0 := u0 (kp.toNatClampNeg + (j - kd.toNatClampNeg)) (by rw [cl_toNat, cl_toNat] at *; omega)
                  have el0 := el_jn p0 d0 (kp.toNatClampNeg + (j - kd.toNatClampNeg))
                  exact ⟨by have := hb0.1; omega, by have := hb0.2; omega⟩
                · have hb1 := u1 j hj
                  have el1 := el_jn p1 d1 j
                  exact ⟨by have := hb1.1; omega, by have := hb1.2; omega⟩
            · exact absurd zz (by decide)
          · exact absurd zz (by decide)
    · cases h
  · cases h
end RS7
