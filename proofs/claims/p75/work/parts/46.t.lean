/-! v2: copies of longs, of a part of a row -/
def rj_copyL (st : rj_S) : Option (List rj_S) := match st with
  | (pc, lo, .inl n :: .inl d :: .inr (.inr (.inl q1)) :: .inl p :: .inr (.inr (.inl q0)) :: sk, hp, K, wr) => (match hp[q0]?, hp[q1]? with
    | some (.inr (.inl (g0, n0, _, _))), some (.inr (.inl (g1, n1, _, _))) =>
      (match Nat.beq g0 3 && (Nat.beq g1 3 && (rj_le K (rj_scale (-1) n) && (rj_le K (rj_scale (-1) d) && (rj_le K (rj_scale (-1) p) && (rj_le K (rj_plus (rj_add p n) (-(n0 : Int))) && (rj_le K (rj_plus (rj_add d n) (-(n1 : Int))) && (Nat.beq (gi_a q0).1 1 && (Nat.beq (gi_a q1).1 1 && (rj_sub2 ((gi_a q0).2.getD 0 (0, 0)) ((gi_a q1).2.getD 0 (0, 0)) && (!(Nat.beq q1 116) && Nat.ble (rj_w sk) 8)))))))))) with
      | false => none
      | true => some [(pc + 3, lo, sk, hp.set q1 (.inr (.inl (3, n1, [], []))), K, rj_addw wr q1 0)])
    | _, _ => none)
  | _ => none
def rj_cpy (st : rj_S) : Option (List rj_S) := match rj_copy st with
  | some r => some r
  | none => rj_copyL st
section RT5b
variable {p : Program} {l : Launch} {e : Env} {R : Room} {s : State} {m : MethodId} {args : Array Value} {below : List Frame} {meth : Method} {c : Code} {Q : State → Prop} {D : va_G} {A : Nat → Prop} {H0 : Heap} {z : rj_Z} {N0 : Nat} {σ0 : Nat → Int} {w0 : va_W} {nL cs ss : Nat} {cc : ByteArray} {o : Nat}
theorem to_copyL {idx : Nat} {st : rj_S} {sts : List rj_S} (X : rj_Xc p R s m args c D A H0 z nL cc o cs ss) (hlink : Cond.methodLink (ri_own o) idx arraycopyName ∈ tb) (hdg : decode cc st.1 = .ok (.invokestatic idx, 3)) (h : rj_copyL st = some sts) (hs : ∀ t ∈ sts, rj_W p l e R s m args below meth c Q D A H0 z N0 σ0 w0 nL cs ss t) : rj_W p l e R s m args below meth c Q D A H0 z N0 σ0 w0 nL cs ss st := by
  obtain ⟨hx, hb, hml, hown, hts, hK, hA, -, hr, hr3, hr4⟩ := X
  obtain ⟨pc, lo, sk, hp, K, wr⟩ := st
  intro ls stk H locs ⟨σ, ws, lv, hB, hl, h1, h2, h3⟩
  unfold rj_copyL at h
  split at h
  · rename_i _ _ xn xd q1 xp q0 sk' _ _ _ hst
    cases hst
    split at h
    · rename_i g0 n0 me0 ex0 gg1 n1 me1 ex1 hq0 hq1
      split at h
      · cases h
      · rename_i hk
        cases h
        simp only [Bool.and_eq_true, Bool.not_eq_true'] at hk
        obtain ⟨k1, k2, b1, b2, b3, b4, b5, k7, k8, k9, k10, k11⟩ := hk
        have k1 := Nat.eq_of_beq_eq_true k1
        have k2 := Nat.eq_of_beq_eq_true k2
        have k7 := Nat.eq_of_beq_eq_true k7
        have k8 := Nat.eq_of_beq_eq_true k8
        subst k1 k2
        have k10 : q1 ≠ 116 := fun hq => by rw [hq] at k10; exact absurd k10 (by decide)
        have k11 := Nat.le_of_ble_eq_true k11
        unfold rj_sub2 at k9
        rw [Bool.and_eq_true, decide_eq_true_eq, decide_eq_true_eq] at k9
        match stk, h2 with
        | [], h2 => exact h2.elim
        | [_], h2 => exact h2.2.elim
        | [_, _], h2 => exact h2.2.2.elim
        | [_, _, _], h2 => exact h2.2.2.2.elim
        | [_, _, _, _], h2 => exact h2.2.2.2.2.elim
        | vn :: vd :: v1 :: vp :: v0 :: stk, ⟨⟨kn, en, gn⟩, ⟨kd, ed, gd⟩, ⟨a1, ha1, ea1⟩, ⟨kp, ep, gp⟩, ⟨a0, ha0, ea0⟩, h2⟩ =>
          subst en
          subst ed
          subst ea1
          subst ep
          subst ea0
          have hKs := Gb_K hB
          have b1 := le_ok hKs (wf_scale gn.1) b1
          have b2 := le_ok hKs (wf_scale gd.1) b2
          have b3 := le_ok hKs (wf_scale gp.1) b3
          have b4 := le_ok hKs (g := rj_plus (rj_add xp xn) (-(n0 : Int))) (wf_add gp.1 gn.1) b4
          have b5 := le_ok hKs (g := rj_plus (rj_add xd xn) (-(n1 : Int))) (wf_add gd.1 gn.1) b5
          rw [ev_scale, gn.2] at b1
          rw [ev_scale, gd.2] at b2
          rw [ev_scale, gp.2] at b3
          rw [ev_plus, ev_add, gp.2, gn.2] at b4
          rw [ev_plus, ev_add, gd.2, gn.2] at b5
          obtain ⟨e0, w0', c0⟩ := hp_at h3 hB.1 ha0 hq0
          obtain ⟨e1, w1, c1⟩ := hp_at h3 hB.1 ha1 hq1
          rcases c0 with ⟨cA0, f0, rfl, zz, -⟩ | ⟨cA0, f0, rfl, -, t0, u0⟩
          · exact absurd zz (by decide)
          · rcases c1 with ⟨cA1, f1, rfl, zz, -⟩ | ⟨cA1, f1, rfl, -, t1, u1⟩
            · exact absurd zz (by decide)
            · have hsum : (stk.map fun v => v.category).sum = rj_w sk' := jg_w h2
              have hneg : ∀ k : Int32, 0 ≤ k.toInt → ¬ k < 0 := fun k hk z => by have := Int32.lt_iff_toInt_lt.mp z; rw [z0] at this; omega
              refine va_copyl (f := f0) (g := f1) (ty := .long) hx hb (hml.trans hl.1.symm) hown (hts _ hlink) (hts _ (tb_mem _ tb_cp.1 rfl)) (hts _ (tb_mem _ tb_cp.2.1 rfl)) (hts _ (tb_mem _ tb_cp.2.2 rfl)) (vK2 hK t0 t1) hB.2.1 hB.2.2.1 hB.2.2.2.1 q0 q1 0 1 w0' w1 rfl rfl rfl (hneg kp (by omega)) (hneg kd (by omega)) (hneg kn (by omega)) (by rw [cl_toNat, cl_toNat]; omega) (by rw [cl_toNat, cl_toNat]; omega) (fun _ _ => rfl) hr3 (Nat.le_trans (by rw [hsum]; exact Nat.add_le_add_right k11 _) (Nat.le_trans (m := 64) (by decide) hr4)) hdg (fun H1 locs1 hP1 hD1 hS1 => ?_)
              obtain ⟨v1, v2, v3, v4⟩ := u0
              obtain ⟨y1, y2, y3, y4⟩ := u1
              refine hs _ List.mem_cons_self _ _ _ _ (G_set (k := 0) (e1 := .inl (cA1, n1, .inr (.inl (va_cpy f0 f1 kp.toNatClampNeg kd.toNatClampNeg kn.toNatClampNeg)))) hB hl h1 h2 h3 w1 (Or.inr ⟨cA1, va_cpy f0 f1 kp.toNatClampNeg kd.toNatClampNeg kn.toNatClampNeg, rfl, rfl, t1, fun j hj => ?_, fun _ hx => absurd hx List.not_mem_nil, fun _ hx => absurd hx List.not_mem_nil, fun hq => absurd hq k10⟩) ⟨rfl, rfl, rfl, fun hj => absurd List.mem_cons_self hj⟩ hP1 hD1 hS1)
              show rj_in (rj_er q1 j) (va_cpy f0 f1 kp.toNatClampNeg kd.toNatClampNeg kn.toNatClampNeg j).toInt
              unfold va_cpy
              split
              · rename_i hr
                have hz := v1 (kp.toNatClampNeg + (j - kd.toNatClampNeg)) (by rw [cl_toNat, cl_toNat] at *; omega)
                unfold rj_er at hz ⊢
                rw [k7, Nat.mod_one] at hz
                rw [k8, Nat.mod_one]
                exact ⟨Int.le_trans k9.1 hz.1, Int.le_trans hz.2 k9.2⟩
              · exact y1 j hj
    · cases h
  · cases h
theorem to_cpy {idx : Nat} {st : rj_S} {sts : List rj_S} (X : rj_Xc p R s m args c D A H0 z nL cc o cs ss) (hlink : Cond.methodLink (ri_own o) idx arraycopyName ∈ tb) (hdg : decode cc st.1 = .ok (.invokestatic idx, 3)) (h : rj_cpy st = some sts) (hs : ∀ t ∈ sts, rj_W p l e R s m args below meth c Q D A H0 z N0 σ0 w0 nL cs ss t) : rj_W p l e R s m args below meth c Q D A H0 z N0 σ0 w0 nL cs ss st := by
  unfold rj_cpy at h
  split at h
  · rename_i r hr
    cases h
    exact to_copy X hlink hdg hr hs
  · exact to_copyL X hlink hdg h hs
end RT5b
