/-! v2: the script, arrays of objects, lengths, copies -/
theorem aas_mem {σ : Nat → Int} {K : rj_K} {x : rj_F} {mk : Nat → rj_K → rj_S} {v0 : Int} (hK : rj_sat σ K) (hx : rj_n K.1.length σ x v0) : ∀ {fs : List Nat} {v : Int} {k : Nat} {f : Nat}, v0 = v + (k : Int) → fs[k]? = some f → ∃ K1, mk f K1 ∈ rj_aas K x mk v fs ∧ rj_sat σ K1 ∧ K1.1.length = K.1.length
  | [], _, _, _, _, h => by simp at h
  | g :: fs, v, 0, f, hz, h => by
    rw [List.getElem?_cons_zero] at h
    cases h
    obtain ⟨K1, e1, k1, l1⟩ := tst_ok hK .eq (x := x) (y := rj_k v) hx.1 wf_k (by
      show rj_ev σ x = rj_ev σ (rj_k v)
      rw [hx.2, ev_k]
      omega)
    exact ⟨K1, List.mem_append_left _ (List.mem_map.mpr ⟨K1, e1, rfl⟩), k1, l1⟩
  | g :: fs, v, k + 1, f, hz, h => by
    rw [List.getElem?_cons_succ] at h
    obtain ⟨K1, h1, h2⟩ := aas_mem hK hx (mk := mk) (v := v + 1) (k := k) (by omega) h
    exact ⟨K1, List.mem_append_right _ h1, h2⟩
def rj_copy (st : rj_S) : Option (List rj_S) := match st with
  | (pc, lo, .inl n :: .inl d :: .inr (.inr (.inl q1)) :: .inl p :: .inr (.inr (.inl q0)) :: sk, hp, K, wr) => (match hp[q0]?, hp[q1]? with
    | some (.inr (.inl (g0, n0, me0, _))), some (.inr (.inl (g1, n1, _, _))) =>
      (match Nat.beq g0 0 && (Nat.beq g1 0 && (Nat.beq n0 n1 && (rj_beq n (rj_k n0) && (rj_beq d (rj_k 0) && (rj_beq p (rj_k 0) && (Nat.beq (gi_a q0).1 1 && (Nat.beq (gi_a q1).1 1 && (rj_sub2 ((gi_a q0).2.getD 0 (0, 0)) ((gi_a q1).2.getD 0 (0, 0)) && (!(Nat.beq q1 116) && Nat.ble (rj_w sk) 8))))))))) with
      | false => none
      | true => some [(pc + 3, lo, sk, hp.set q1 (.inr (.inl (0, n1, me0, []))), K, rj_addw wr q1 0)])
    | _, _ => none)
  | _ => none
section RT5
variable {p : Program} {l : Launch} {e : Env} {R : Room} {s : State} {m : MethodId} {args : Array Value} {below : List Frame} {meth : Method} {c : Code} {Q : State → Prop} {D : va_G} {A : Nat → Prop} {H0 : Heap} {z : rj_Z} {N0 : Nat} {σ0 : Nat → Int} {w0 : va_W} {nL cs ss : Nat} {cc : ByteArray} {o : Nat}
theorem to_sld {sc : rj_Sc} {st : rj_S} {sts : List rj_S} (X : rj_Xc p R s m args c D A H0 z nL cc o cs ss) (hsc : rj_scr s A H0 z N0 σ0 sc) (hdg : decode cc st.1 = .ok (.iaload, 1)) (h : rj_sld sc st = some sts) (hs : ∀ t ∈ sts, rj_W p l e R s m args below meth c Q D A H0 z N0 σ0 w0 nL cs ss t) : rj_W p l e R s m args below meth c Q D A H0 z N0 σ0 w0 nL cs ss st := by
  obtain ⟨hx, hb, -⟩ := X
  obtain ⟨pc, lo, sk, hp, K, wr⟩ := st
  intro ls stk H locs ⟨σ, ws, lv, hB, hl, h1, h2, h3⟩
  match sc, hsc, h with
  | none, _, h => cases h
  | some (lf, bf, fs), ⟨L, xs, x1, x2, x3, x4, x5, x6, x7⟩, h =>
    unfold rj_sld at h
    dsimp only at h
    split at h
    · rename_i _ _ xx uu sk' _ _ _ hst
      cases hst
      split at h
      · cases h
      · rename_i f hf
        split at h
        · cases h
        · rename_i hk
          cases h
          rw [Bool.and_eq_true, Bool.and_eq_true, Bool.and_eq_true, decide_eq_true_eq, List.isEmpty_iff] at hk
          obtain ⟨k1, k2, k3, k4⟩ := hk
          match stk, h2 with
          | [], h2 => exact h2.elim
          | [_], h2 => exact h2.2.elim
          | vi :: vr :: stk, ⟨⟨ki, ei, gi⟩, hr, h2⟩ =>
            subst ei
            have hr : vr = .ref z.2.1 := hr
            subst hr
            have hK := Gb_K hB
            have hag := hB.2.2.2.2.2.1
            have hN := hB.2.2.2.2.2.2.1
            have elf : rj_ev σ lf = (L : Int) := by rw [ev_ag hag x4.1]; exact x4.2
            have ebf : rj_ev σ bf = rj_ev σ0 bf := ev_ag hag x5
            have wlf := wf_le hN x4.1
            have wbf := wf_le hN x5
            have e1 : (rj_sub xx bf).1 = ki.toInt - rj_ev σ0 bf := by
              have := ev_sub σ xx bf
              rw [gi.2, ebf] at this
              rw [← this]
              unfold rj_ev
              rw [k1]
              show _ = _ + (0 : Int)
              omega
            have b1 := le_ok hK (wf_scale gi.1) k3
            rw [ev_scale, gi.2] at b1
            have b2 := le_ok hK (show rj_wf K.1.length (rj_plus (rj_sub xx lf) 1) from wf_sub gi.1 wlf) k4
            rw [ev_plus, ev_sub, gi.2, elf] at b2
            have x8 := x7 _ f hf
            have ej : ((rj_sub xx bf).1.toNat : Int) = ki.toInt - rj_ev σ0 bf := by omega
            rw [ej] at x8
            have ek : rj_ev σ0 bf + (ki.toInt - rj_ev σ0 bf) = ki.toInt := by omega
            rw [ek] at x8
            have x9 := x8.2 (by omega) (by omega)
            refine va_sld hx hb x1 x2 x3 hB.2.2.2.1 (i32_in (by omega) (by omega)) hdg ?_
            refine hs _ List.mem_cons_self _ _ _ _ ⟨σ, ws, lv, hB, hl, h1, ⟨⟨_, rfl, wf_le hN x8.1, ?_⟩, h2⟩, h3⟩
            rw [ev_ag hag x8.1, x9, cl_toNat]
    · cases h
theorem to_ild {sc : rj_Sc} {st : rj_S} {sts : List rj_S} (X : rj_Xc p R s m args c D A H0 z nL cc o cs ss) (hsc : rj_scr s A H0 z N0 σ0 sc) (hdg : decode cc st.1 = .ok (.iaload, 1)) (h : rj_ild sc st = some sts) (hs : ∀ t ∈ sts, rj_W p l e R s m args below meth c Q D A H0 z N0 σ0 w0 nL cs ss t) : rj_W p l e R s m args below meth c Q D A H0 z N0 σ0 w0 nL cs ss st := by
  unfold rj_ild at h
  split at h
  · exact to_sld X hsc hdg h hs
  · exact to_aldI X (Or.inl ⟨rfl, rfl⟩) hdg h hs
theorem to_aald {st : rj_S} {sts : List rj_S} (X : rj_Xc p R s m args c D A H0 z nL cc o cs ss) (hdg : decode cc st.1 = .ok (.aaload, 1)) (h : rj_aald st = some sts) (hs : ∀ t ∈ sts, rj_W p l e R s m args below meth c Q D A H0 z N0 σ0 w0 nL cs ss t) : rj_W p l e R s m args below meth c Q D A H0 z N0 σ0 w0 nL cs ss st := by
  obtain ⟨hx, hb, hml, hown, hts, hK, hA, -⟩ := X
  obtain ⟨pc, lo, sk, hp, K, wr⟩ := st
  intro ls stk H locs ⟨σ, ws, lv, hB, hl, h1, h2, h3⟩
  unfold rj_aald at h
  split at h
  · rename_i _ _ xx qq sk' _ _ _ hst
    cases hst
    split at h
    · rename_i ci els hq
      split at h
      · cases h
      · rename_i hk
        cases h
        match stk, h2 with
        | [], h2 => exact h2.elim
        | [_], h2 => exact h2.2.elim
        | vi :: va :: stk, ⟨⟨ki, ei, gi⟩, ⟨a, ha, ea⟩, h2⟩ =>
          subst ei
          subst ea
          obtain ⟨e1, g1, cA, f, r, rfl, g2, g3, g4⟩ := hp_at h3 hB.1 ha hq
          have hin := inb_ok (Gb_K hB) gi.1 hk
          rw [gi.2] at hin
          have i4 : ki.toNatClampNeg < els.length := by rw [cl_toNat]; omega
          obtain ⟨el, hel⟩ : ∃ el, els[ki.toNatClampNeg]? = some el := ⟨_, List.getElem?_eq_getElem i4⟩
          obtain ⟨K1, m1, m2, m3⟩ := aas_mem (mk := fun f K1 => (pc + 1, lo, .inr (.inr (.inl f)) :: sk', hp, K1, wr)) (Gb_K hB) gi (v := 0) (k := ki.toNatClampNeg) (by rw [cl_toNat]; omega) hel
          have u := up_len m2 m3
          obtain ⟨a2, ha2, g6⟩ := g4 _ el hel
          refine va_aldq (f := f) hx hb (vK1 hK g3) hB.2.1 qq 0 g1 rfl (i32_in hin.1 hin.2) hdg ?_
          rw [g6]
          exact hs _ m1 _ _ _ _ ⟨σ, ws, lv, Gb_up hB u, hl, lo_ag u.2.1 u.1 h1, ⟨⟨a2, ha2, rfl⟩, sk_ag u.2.1 u.1 h2⟩, hp_ag u.2.1 u.1 h3⟩
    · cases h
  · cases h
theorem to_len {sc : rj_Sc} {st : rj_S} {sts : List rj_S} (X : rj_Xc p R s m args c D A H0 z nL cc o cs ss) (hsc : rj_scr s A H0 z N0 σ0 sc) (hdg : decode cc st.1 = .ok (.arraylength, 1)) (h : rj_len sc st = some sts) (hs : ∀ t ∈ sts, rj_W p l e R s m args below meth c Q D A H0 z N0 σ0 w0 nL cs ss t) : rj_W p l e R s m args below meth c Q D A H0 z N0 σ0 w0 nL cs ss st := by
  obtain ⟨hx, hb, hml, hown, hts, hK, hA, -⟩ := X
  obtain ⟨pc, lo, sk, hp, K, wr⟩ := st
  intro ls stk H locs ⟨σ, ws, lv, hB, hl, h1, h2, h3⟩
  have key : ∀ nn : Nat, nn ≤ 10000 → rj_n K.1.length σ (rj_k (nn : Int)) (Int32.ofNat nn).toInt := fun nn hn => by
    have e1 : (Int32.ofNat nn).toInt = (nn : Int) := nI_toInt (n := nn) (by omega)
    rw [e1]
    exact ⟨wf_k, ev_k σ _⟩
  unfold rj_len at h
  split at h
  · rename_i _ _ qq sk' _ _ _ hst
    cases hst
    split at h
    · rename_i gg nn me ex hq
      split at h
      · rename_i hk
        cases h
        have hk := Nat.le_of_ble_eq_true hk
        match stk, h2 with
        | [], h2 => exact h2.elim
        | vr :: stk, ⟨⟨a, ha, ea⟩, h2⟩ =>
          subst ea
          obtain ⟨e1, g1, g2⟩ := hp_at h3 hB.1 ha hq
          rcases g2 with ⟨cA, f, rfl, g3, g4, g5⟩ | ⟨cA, f, rfl, g3, g4, g5⟩
          · exact va_alen hx hb (vK1 hK g4) hB.2.1 qq 0 g1 rfl rfl hdg (hs _ List.mem_cons_self _ _ _ _ ⟨σ, ws, lv, hB, hl, h1, ⟨⟨_, rfl, key nn hk⟩, h2⟩, h3⟩)
          · exact va_alen hx hb (vK1 hK g4) hB.2.1 qq 0 g1 rfl rfl hdg (hs _ List.mem_cons_self _ _ _ _ ⟨σ, ws, lv, hB, hl, h1, ⟨⟨_, rfl, key nn hk⟩, h2⟩, h3⟩)
      · cases h
    · cases h
  · rename_i _ _ uu sk' _ _ _ hst
    cases hst
    match sc, hsc, h with
    | none, _, h => cases h
    | some (lf, bf, fs), ⟨L, xs, x1, x2, x3, x4, x5, x6, x7⟩, h =>
      cases h
      match stk, h2 with
      | [], h2 => exact h2.elim
      | vr :: stk, ⟨hr, h2⟩ =>
        have hr : vr = .ref z.2.1 := hr
        subst hr
        have e1 : (Int32.ofNat L).toInt = (L : Int) := nI_toInt (n := L) (by omega)
        refine va_slen hx hb x1 x2 x3 hB.2.2.2.1 hdg (hs _ List.mem_cons_self _ _ _ _ ⟨σ, ws, lv, hB, hl, h1, ⟨⟨_, rfl, wf_le hB.2.2.2.2.2.2.1 x4.1, ?_⟩, h2⟩, h3⟩)
        rw [ev_ag hB.2.2.2.2.2.1 x4.1, x4.2, e1]
  · cases h
theorem to_copy {idx : Nat} {st : rj_S} {sts : List rj_S} (X : rj_Xc p R s m args c D A H0 z nL cc o cs ss) (hlink : Cond.methodLink (ri_own o) idx arraycopyName ∈ tb) (hdg : decode cc st.1 = .ok (.invokestatic idx, 3)) (h : rj_copy st = some sts) (hs : ∀ t ∈ sts, rj_W p l e R s m args below meth c Q D A H0 z N0 σ0 w0 nL cs ss t) : rj_W p l e R s m args below meth c Q D A H0 z N0 σ0 w0 nL cs ss st := by
  obtain ⟨hx, hb, hml, hown, hts, hK, hA, -, hr, hr3, hr4⟩ := X
  obtain ⟨pc, lo, sk, hp, K, wr⟩ := st
  intro ls stk H locs ⟨σ, ws, lv, hB, hl, h1, h2, h3⟩
  unfold rj_copy at h
  split at h
  · rename_i _ _ xn xd q1 xp q0 sk' _ _ _ hst
    cases hst
    split at h
    · rename_i g0 n0 me0 ex0 gg1 n1 me1 ex1 hq0 hq1
      split at h
      · cases h
      · rename_i hk
        cases h
        simp only [Bool.and_eq_true, Bool.not_eq_true'] at hk
        obtain ⟨k1, k2, k3, k4, k5, k6, k7, k8, k9, k10, k11⟩ := hk
        have k1 := Nat.eq_of_beq_eq_true k1
        have k2 := Nat.eq_of_beq_eq_true k2
        have k3 := Nat.eq_of_beq_eq_true k3
        have k4 := beq_ok k4
        have k5 := beq_ok k5
        have k6 := beq_ok k6
        have k7 := Nat.eq_of_beq_eq_true k7
        have k8 := Nat.eq_of_beq_eq_true k8
        subst k1 k2 k3 k4 k5 k6
        have k10 : q1 ≠ 116 := fun hq => by rw [hq] at k10; exact absurd k10 (by decide)
        have k11 := Nat.le_of_ble_eq_true k11
        unfold rj_sub2 at k9
        rw [Bool.and_eq_true, decide_eq_true_eq, decide_eq_true_eq] at k9
        match stk, h2 with
        | [], h2 => exact h2.elim
        | [_], h2 => exact h2.2.elim
        | [_, _], h2 => exact h2.2.2.elim
        | [_, _, _], h2 => exact h2.2.2.2.elim
        | [_, _, _, _], h2 => exact h2.2.2.2.2.elim
        | vn :: vd :: v1 :: vp :: v0 :: stk, ⟨⟨kn, en, gn⟩, ⟨kd, ed, gd⟩, ⟨a1, ha1, ea1⟩, ⟨kp, ep, gp⟩, ⟨a0, ha0, ea0⟩, h2⟩ =>
          subst en
          subst ed
          subst ea1
          subst ep
          subst ea0
          have bn : (n0 : Int) = kn.toInt := by have := gn.2; rw [ev_k] at this; exact this
          have bd : 0 = kd.toInt := by have := gd.2; rw [ev_k] at this; exact this
          have bp : 0 = kp.toInt := by have := gp.2; rw [ev_k] at this; exact this
          obtain ⟨e0, w0', c0⟩ := hp_at h3 hB.1 ha0 hq0
          obtain ⟨e1, w1, c1⟩ := hp_at h3 hB.1 ha1 hq1
          rcases c0 with ⟨cA0, f0, rfl, -, t0, u0⟩ | ⟨cA0, f0, rfl, zz, -⟩
          · rcases c1 with ⟨cA1, f1, rfl, -, t1, u1⟩ | ⟨cA1, f1, rfl, zz, -⟩
            · have hsum : (stk.map fun v => v.category).sum = rj_w sk' := jg_w h2
              have hneg : ∀ k : Int32, 0 ≤ k.toInt → ¬ k < 0 := fun k hk z => by have := Int32.lt_iff_toInt_lt.mp z; rw [z0] at this; omega
              refine va_copyi (f := f0) (g := f1) (ty := .int) hx hb (hml.trans hl.1.symm) hown (hts _ hlink) (hts _ (tb_mem _ tb_cp.1 rfl)) (hts _ (tb_mem _ tb_cp.2.1 rfl)) (hts _ (tb_mem _ tb_cp.2.2 rfl)) (vK2 hK t0 t1) hB.2.1 hB.2.2.1 hB.2.2.2.1 q0 q1 0 1 w0' w1 rfl rfl rfl (hneg kp (by omega)) (hneg kd (by omega)) (hneg kn (by omega)) (by rw [cl_toNat, cl_toNat]; omega) (by rw [cl_toNat, cl_toNat]; omega) (fun _ _ => rfl) hr3 (Nat.le_trans (by rw [hsum]; exact Nat.add_le_add_right k11 _) (Nat.le_trans (m := 64) (by decide) hr4)) hdg (fun H1 locs1 hP1 hD1 hS1 => ?_)
              have key : ∀ j, j < n0 → va_cpy f0 f1 kp.toNatClampNeg kd.toNatClampNeg kn.toNatClampNeg j = f0 j := fun j hj => by
                unfold va_cpy
                have y1 : kp.toNatClampNeg = 0 := by rw [cl_toNat]; omega
                have y2 : kd.toNatClampNeg = 0 := by rw [cl_toNat]; omega
                have y3 : kn.toNatClampNeg = n0 := by rw [cl_toNat]; omega
                rw [y1, y2, y3]
                split
                · congr 1
                  omega
                · rename_i hn
                  exact absurd (by omega) hn
              obtain ⟨v1, v2, v3, v4⟩ := u0
              refine hs _ List.mem_cons_self _ _ _ _ (G_set (k := 0) (e1 := .inl (cA1, n0, .inl (va_cpy f0 f1 kp.toNatClampNeg kd.toNatClampNeg kn.toNatClampNeg))) hB hl h1 h2 h3 w1 (Or.inl ⟨cA1, va_cpy f0 f1 kp.toNatClampNeg kd.toNatClampNeg kn.toNatClampNeg, rfl, by decide, t1, fun j hj => ?_, fun pq hpq => ?_, fun _ hx => absurd hx List.not_mem_nil, fun hq => absurd hq k10⟩) ⟨rfl, rfl, rfl, fun hj => absurd List.mem_cons_self hj⟩ hP1 hD1 hS1)
              · have := v1 j hj
                show rj_in (rj_er q1 j) (va_cpy f0 f1 kp.toNatClampNeg kd.toNatClampNeg kn.toNatClampNeg j).toInt
                rw [key j hj]
                unfold rj_er at this ⊢
                rw [k7, Nat.mod_one] at this
                rw [k8, Nat.mod_one]
                exact ⟨Int.le_trans k9.1 this.1, Int.le_trans this.2 k9.2⟩
              · obtain ⟨p1, p2, p3, p4, p5⟩ := v2 pq hpq
                refine ⟨p1, p2, p3, p4, ?_⟩
                show (va_cpy f0 f1 kp.toNatClampNeg kd.toNatClampNeg kn.toNatClampNeg (rj_ev σ pq.1).toNat).toInt = _
                rw [key _ (by omega)]
                exact p5
            · exact absurd zz (by decide)
          · exact absurd zz (by decide)
    · cases h
  · cases h
end RT5
