/-! v2: fields and arrays -/
def rj_addw (wr : rj_Wr) (q k : Nat) : rj_Wr := match wr.any (fun x => Nat.beq x.1 q && Nat.beq x.2 k) with
  | true => wr
  | false => (q, k) :: wr
theorem addw_mem (wr : rj_Wr) (q k : Nat) : (q, k) ∈ rj_addw wr q k := by
  unfold rj_addw
  split
  · rename_i h
    obtain ⟨x, h1, h2⟩ := List.any_eq_true.mp h
    rw [Bool.and_eq_true] at h2
    have e : x = (q, k) := Prod.ext (Nat.eq_of_beq_eq_true h2.1) (Nat.eq_of_beq_eq_true h2.2)
    rw [← e]
    exact h1
  · exact List.mem_cons_self
theorem addw_sub (wr : rj_Wr) (q k : Nat) : ∀ x ∈ wr, x ∈ rj_addw wr q k := by
  intro x hx
  unfold rj_addw
  split
  · exact hx
  · exact List.mem_cons_of_mem _ hx
def rj_fits (t : FieldType) (K : rj_K) (v : rj_V) : Bool := match t, v with
  | .int, .inl _ => true
  | .boolean, .inl f => rj_wi K f 0 1
  | .long, .inr (.inl _) => true
  | _, _ => false
def rj_get (o idx : Nat) (st : rj_S) : Option (List rj_S) := match st with
  | (pc, lo, .inr (.inr (.inl q)) :: sk, hp, K, wr) => (match ri_key (tb_f o) idx, hp[q]? with
    | some (ci, k, _), some (.inl (c1, _)) => (match Nat.beq ci c1, rj_getf hp K q k with
      | true, some (hp1, K1, v) => some [(pc + 3, lo, v :: sk, hp1, K1, wr)]
      | _, _ => none)
    | _, _ => none)
  | _ => none
def rj_put (o idx : Nat) (st : rj_S) : Option (List rj_S) := match st with
  | (pc, lo, v :: .inr (.inr (.inl q)) :: sk, hp, K, wr) => (match ri_key (tb_f o) idx, hp[q]? with
    | some (ci, k, _), some (.inl (c1, fs)) => (match Nat.beq ci c1 && (Nat.blt k fs.length && (rj_fits (ri_ty ci k) K v && !(ri_fin ci k))) with
      | true => some [(pc + 3, lo, sk, hp.set q (.inl (c1, fs.set k (some v))), K, rj_addw wr q (k + 1))]
      | false => none)
    | _, _ => none)
  | _ => none
/-- a place of an array, as a form -/
def rj_ald (tags : List Nat) (lg : Bool) (st : rj_S) : Option (List rj_S) := match st with
  | (pc, lo, .inl x :: .inr (.inr (.inl q)) :: sk, hp, K, wr) => (match hp[q]? with
    | some (.inr (.inl (g, n, me, ex))) => (match rj_norm K.1 x with
      | ix => match tags.contains g && rj_inb K n ix with
        | false => none
        | true => match rj_ald1 K q n me ex ix with
          | none => none
          | some (K1, me1, v) => some [(pc + 1, lo, (match lg with
            | false => .inl v
            | true => .inr (.inl v)) :: sk, hp.set q (.inr (.inl (g, n, me1, ex))), K1, wr)])
    | _ => none)
  | _ => none
def rj_sld (sc : rj_Sc) (st : rj_S) : Option (List rj_S) := match sc with
  | none => none
  | some (lf, bf, fs) => match st with
    | (pc, lo, .inl x :: .inr (.inr (.inr (.inr _))) :: sk, hp, K, wr) => (match fs[(rj_sub x bf).1.toNat]? with
      | none => none
      | some f => match (rj_sub x bf).2.isEmpty && (decide (0 ≤ (rj_sub x bf).1) && (rj_le K (rj_scale (-1) x) && rj_le K (rj_plus (rj_sub x lf) 1))) with
        | false => none
        | true => some [(pc + 1, lo, .inl f :: sk, hp, K, wr)])
    | _ => none
def rj_ild (sc : rj_Sc) (st : rj_S) : Option (List rj_S) := match st.2.2.1 with
  | .inl _ :: .inr (.inr (.inr (.inr _))) :: _ => rj_sld sc st
  | _ => rj_ald [0] false st
def rj_sub2 (X Y : Int × Int) : Bool := decide (Y.1 ≤ X.1) && decide (X.2 ≤ Y.2)
def rj_stt (g : Nat) (X : Int × Int) : Bool := match g with
  | 1 => rj_sub2 X (-128, 127)
  | 2 => rj_sub2 X (0, 1)
  | _ => true
def rj_ast (tags : List Nat) (st : rj_S) : Option (List rj_S) := match st with
  | (pc, lo, .inl v :: .inl x :: .inr (.inr (.inl q)) :: sk, hp, K, wr) => (match hp[q]? with
    | some (.inr (.inl (g, n, me, ex))) => (match rj_norm K.1 x with
      | ix => match tags.contains g && (rj_inb K n ix && rj_stt g (rj_rw q ix)) with
        | false => none
        | true => match rj_ast1 K q me ex ix v with
          | none => none
          | some (me1, ex1) => some [(pc + 1, lo, sk, hp.set q (.inr (.inl (g, n, me1, ex1))), K, rj_addw wr q 0)])
    | _ => none)
  | _ => none
def rj_lst (st : rj_S) : Option (List rj_S) := match st with
  | (pc, lo, .inr (.inl v) :: .inl x :: .inr (.inr (.inl q)) :: sk, hp, K, wr) => (match hp[q]? with
    | some (.inr (.inl (g, n, me, ex))) => (match rj_norm K.1 x with
      | ix => match Nat.beq g 3 && rj_inb K n ix with
        | false => none
        | true => match rj_ast1 K q me ex ix v with
          | none => none
          | some (me1, ex1) => some [(pc + 1, lo, sk, hp.set q (.inr (.inl (g, n, me1, ex1))), K, rj_addw wr q 0)])
    | _ => none)
  | _ => none
def rj_aas (K : rj_K) (x : rj_F) (mk : Nat → rj_K → rj_S) : Int → List Nat → List rj_S
  | _, [] => []
  | v, f :: r => (rj_tst .eq K x (rj_k v)).map (mk f) ++ rj_aas K x mk (v + 1) r
def rj_aald (st : rj_S) : Option (List rj_S) := match st with
  | (pc, lo, .inl x :: .inr (.inr (.inl q)) :: sk, hp, K, wr) => (match hp[q]? with
    | some (.inr (.inr (_, els))) => (match rj_inb K els.length x with
      | false => none
      | true => some (rj_aas K x (fun f K1 => (pc + 1, lo, .inr (.inr (.inl f)) :: sk, hp, K1, wr)) 0 els))
    | _ => none)
  | _ => none
def rj_len (sc : rj_Sc) (st : rj_S) : Option (List rj_S) := match st with
  | (pc, lo, .inr (.inr (.inl q)) :: sk, hp, K, wr) => (match hp[q]? with
    | some (.inr (.inl (_, n, _, _))) => (match Nat.ble n 10000 with
      | true => some [(pc + 1, lo, .inl (rj_k n) :: sk, hp, K, wr)]
      | false => none)
    | _ => none)
  | (pc, lo, .inr (.inr (.inr (.inr _))) :: sk, hp, K, wr) => (match sc with
    | some (lf, _, _) => some [(pc + 1, lo, .inl lf :: sk, hp, K, wr)]
    | none => none)
  | _ => none
theorem fs_put {z : rj_Z} {N : Nat} {σ : Nat → Int} {ci k : Nat} {fs : List (Option rj_V)} {vs : List Value} {v : rj_V} {x : Value} (h : rj_fs z N σ ci fs vs) (hv : rj_g z N σ v x) : rj_fs z N σ ci (fs.set k (some v)) (vs.set k x) := by
  refine ⟨by rw [List.length_set, List.length_set]; exact h.1, fun j o y ho hy => ?_⟩
  by_cases hj : k = j
  · subst hj
    rw [List.getElem?_set] at ho hy
    simp only [if_true] at ho hy
    split at ho
    · cases ho
      split at hy
      · cases hy
        exact hv
      · cases hy
    · cases ho
  · rw [List.getElem?_set_ne hj] at ho hy
    exact h.2 j o y ho hy
theorem jfits_ok {z : rj_Z} {K : rj_K} {σ : Nat → Int} {t : FieldType} {v : rj_V} {x : Value} (hK : rj_sat σ K) (hg : rj_g z K.1.length σ v x) (h : rj_fits t K v = true) : narrow t x = x ∧ fits t x = true := by
  unfold rj_fits at h
  split at h
  · obtain ⟨k, rfl, -⟩ := hg
    exact ⟨rfl, rfl⟩
  · rename_i f
    obtain ⟨k, rfl, hn⟩ := hg
    have hb := wi_ok hK hn.1 h
    rw [hn.2] at hb
    rcases i32_01 (x := k) hb.1 hb.2 with rfl | rfl
    · exact ⟨rfl, rfl⟩
    · exact ⟨rfl, rfl⟩
  · obtain ⟨k, rfl, -⟩ := hg
    exact ⟨rfl, rfl⟩
  · cases h
theorem i32_in {k : Int32} {n : Nat} (h0 : 0 ≤ k.toInt) (h1 : k.toInt < (n : Int)) : vp_in k n := vp_in_iff.mpr ⟨h0, by omega⟩
section RT4
variable {p : Program} {l : Launch} {e : Env} {R : Room} {s : State} {m : MethodId} {args : Array Value} {below : List Frame} {meth : Method} {c : Code} {Q : State → Prop} {D : va_G} {A : Nat → Prop} {H0 : Heap} {z : rj_Z} {N0 : Nat} {σ0 : Nat → Int} {w0 : va_W} {nL cs ss : Nat} {cc : ByteArray} {o : Nat}
theorem to_get {idx : Nat} {st : rj_S} {sts : List rj_S} (X : rj_Xc p R s m args c D A H0 z nL cc o cs ss) (hdg : decode cc st.1 = .ok (.getfield idx, 3)) (h : rj_get o idx st = some sts) (hs : ∀ t ∈ sts, rj_W p l e R s m args below meth c Q D A H0 z N0 σ0 w0 nL cs ss t) : rj_W p l e R s m args below meth c Q D A H0 z N0 σ0 w0 nL cs ss st := by
  obtain ⟨hx, hb, hml, hown, hts, hK, hA, -⟩ := X
  obtain ⟨pc, lo, sk, hp, K, wr⟩ := st
  intro ls stk H locs ⟨σ, ws, lv, hB, hl, h1, h2, h3⟩
  unfold rj_get at h
  split at h
  · rename_i _ _ q sk' _ _ _ hst
    cases hst
    split at h
    · rename_i ci k pp c1 fs hf hq
      split at h
      · rename_i hp1 K1 v hc hv
        cases h
        have hc := Nat.eq_of_beq_eq_true hc
        subst hc
        match stk, h2 with
        | [], h2 => exact h2.elim
        | va :: stk, ⟨⟨a, ha, ea⟩, h2⟩ =>
          subst ea
          obtain ⟨e1, g1, vs, rfl, g2⟩ := hp_at h3 hB.1 ha hq
          obtain ⟨a', ci', vs', x, q1, q2, -⟩ := getf_at h3 hv
          rw [g1] at q1
          cases q1
          obtain ⟨τ, u, t1, t2⟩ := getf_ok h3 (Gb_K hB) g1 q2 hv
          obtain ⟨⟨C, T, N⟩, f1, f2, f3⟩ := tb_f_mem hf
          exact va_get (D := D) hx hb hts (tb_cl f1).2.2 hown hK hB.2.1 q g1 f1 k f2 (hts _ f3) (fun _ h => h) q2 hdg (hs _ List.mem_cons_self _ _ _ _ ⟨τ, ws, lv, Gb_up hB u, hl, lo_ag u.2.1 u.1 h1, ⟨t2, sk_ag u.2.1 u.1 h2⟩, t1⟩)
      · cases h
    · cases h
  · cases h
/-- behind a change of one cell -/
theorem G_set {pc q a k : Nat} {lo : List (Nat × rj_V)} {sk : List rj_V} {hp : List rj_H} {K : rj_K} {wr : rj_Wr} {σ : Nat → Int} {ws : va_W} {lv : List (Nat × Value)} {ls : Array Slot} {stk : List Value} {H H1 : Heap} {locs locs1 : List Loc} {cn : rj_H} {e0 e1 : va_E} (hB : rj_Gb D A H0 z N0 σ0 w0 H locs K wr σ ws) (hl : lv_has ls nL lv) (h1 : rj_lo z K.1.length σ lo lv) (h2 : ri_2 (rj_g z K.1.length σ) sk stk) (h3 : rj_hp s z K.1.length σ hp ws) (hw : ws[q]? = some (a, e0)) (hc : rj_c s z K.1.length σ q cn e1) (hu : rj_un1 q [(q, k)] e0 e1) (hP : va_P D vwCl (ws.set q (a, e1)) H1) (hD : va_D A (ws.set q (a, e1))) (hS : va_S A H0 H1 locs1) : rj_G D s A H0 z N0 σ0 w0 nL (pc, lo, sk, hp.set q cn, K, rj_addw wr q k) ls stk H1 locs1 := by
  refine ⟨σ, ws.set q (a, e1), lv, ⟨?_, hP, hD, hS, ?_, hB.2.2.2.2.2⟩, hl, h1, h2, hp_set h3 hc⟩
  · rw [fst_set hw]
    exact hB.1
  · refine un_trans hB.2.2.2.2.1 (un_set hw hu) (addw_sub wr q k) (fun x hx => ?_)
    rw [List.mem_singleton.mp hx]
    exact addw_mem wr q k
theorem to_put {idx : Nat} {st : rj_S} {sts : List rj_S} (X : rj_Xc p R s m args c D A H0 z nL cc o cs ss) (hdg : decode cc st.1 = .ok (.putfield idx, 3)) (h : rj_put o idx st = some sts) (hs : ∀ t ∈ sts, rj_W p l e R s m args below meth c Q D A H0 z N0 σ0 w0 nL cs ss t) : rj_W p l e R s m args below meth c Q D A H0 z N0 σ0 w0 nL cs ss st := by
  obtain ⟨hx, hb, hml, hown, hts, hK, hA, -⟩ := X
  obtain ⟨pc, lo, sk, hp, K, wr⟩ := st
  intro ls stk H locs ⟨σ, ws, lv, hB, hl, h1, h2, h3⟩
  unfold rj_put at h
  split at h
  · rename_i _ _ v q sk' _ _ _ hst
    cases hst
    split at h
    · rename_i ci k pp c1 fs hf hq
      split at h
      · rename_i hk
        cases h
        rw [Bool.and_eq_true, Bool.and_eq_true, Bool.and_eq_true, Bool.not_eq_true'] at hk
        obtain ⟨k1, k2, k3, k4⟩ := hk
        have hc := Nat.eq_of_beq_eq_true k1
        subst hc
        have k2 : k < fs.length := Nat.blt_eq.mp k2
        match stk, h2 with
        | [], h2 => exact h2.elim
        | [_], h2 => exact h2.2.elim
        | x :: va :: stk, ⟨hg, ⟨a, ha, ea⟩, h2⟩ =>
          subst ea
          obtain ⟨e1, g1, vs, rfl, g2⟩ := hp_at h3 hB.1 ha hq
          obtain ⟨⟨C, T, N⟩, f1, f2, f3⟩ := tb_f_mem hf
          obtain ⟨n1, n2⟩ := jfits_ok (Gb_K hB) hg k3
          have hkl : k < vs.length := by rw [← g2.1]; exact k2
          have hfin : ri_fin ci k = (T k).2.2.2 := by
            unfold ri_fin
            rw [f1]
          refine va_put (D := D) hx hb hts (tb_cl f1).2.2 (ri_ty ci) (tb_cl f1).1 (tb_cl f1).2.1 hown hK hB.2.1 hB.2.2.1 hB.2.2.2.1 q g1 f1 k f2 (hts _ f3) (fun _ h => h) (hfin.symm.trans k4) ((tb_cl f1).1 k f2) n1 n2 hkl hdg (fun H1 locs1 hP1 hD1 hS1 => ?_)
          refine hs _ List.mem_cons_self _ _ _ _ (G_set (k := k + 1) hB hl h1 h2 h3 g1 ⟨_, rfl, fs_put g2 hg⟩ ⟨rfl, List.length_set, fun j hj => ?_⟩ hP1 hD1 hS1)
          rw [List.getElem?_set_ne (fun e => hj (by rw [e]; exact List.mem_cons_self))]
      · cases h
    · cases h
  · cases h
theorem to_aldI {st : rj_S} {sts : List rj_S} {tags : List Nat} {ins : Instr} (X : rj_Xc p R s m args c D A H0 z nL cc o cs ss) (htag : (ins = .iaload ∧ tags = [0]) ∨ (ins = .baload ∧ tags = [1, 2])) (hdg : decode cc st.1 = .ok (ins, 1)) (h : rj_ald tags false st = some sts) (hs : ∀ t ∈ sts, rj_W p l e R s m args below meth c Q D A H0 z N0 σ0 w0 nL cs ss t) : rj_W p l e R s m args below meth c Q D A H0 z N0 σ0 w0 nL cs ss st := by
  obtain ⟨hx, hb, hml, hown, hts, hK, hA, -⟩ := X
  obtain ⟨pc, lo, sk, hp, K, wr⟩ := st
  intro ls stk H locs ⟨σ, ws, lv, hB, hl, h1, h2, h3⟩
  unfold rj_ald at h
  split at h
  · rename_i _ _ x qq sk' _ _ _ hst
    cases hst
    split at h
    · rename_i gg nn me ex hq
      dsimp only at h
      split at h
      · cases h
      · rename_i hk
        rw [Bool.and_eq_true] at hk
        split at h
        · cases h
        · rename_i K1 me1 v hv
          cases h
          match stk, h2 with
          | [], h2 => exact h2.elim
          | [_], h2 => exact h2.2.elim
          | vi :: va :: stk, ⟨⟨ki, ei, gi⟩, ⟨a, ha, ea⟩, h2⟩ =>
            subst ei
            subst ea
            have nx := n_norm (Gb_K hB) gi
            have hin := inb_ok (Gb_K hB) nx.1 hk.2
            obtain ⟨e1, g1, g2⟩ := hp_at h3 hB.1 ha hq
            rcases g2 with ⟨cA, f, rfl, g3, g4, g5⟩ | ⟨cA, f, rfl, g3, g4, g5⟩
            · obtain ⟨τ, u, t1, t2⟩ := ald1_ok (Gb_K hB) g5 nx.1 hin.1 hin.2 hv
              rw [nx.2] at t2 hin
              have fin := hs _ List.mem_cons_self ls (.int (f ki.toNatClampNeg) :: stk) H locs ⟨τ, ws, lv, Gb_up hB u, hl, lo_ag u.2.1 u.1 h1, ⟨⟨f ki.toNatClampNeg, rfl, t2⟩, sk_ag u.2.1 u.1 h2⟩, hp_know (hp_ag u.2.1 u.1 h3) g1 (Or.inl ⟨cA, f, rfl, g3, g4, t1⟩)⟩
              rcases htag with ⟨rfl, rfl⟩ | ⟨rfl, rfl⟩
              · have hgg : gg = 0 := by simpa using hk.1
                subst hgg
                exact va_iald (f := f) hx hb (vK1 hK g4) hB.2.1 qq 0 g1 rfl (i32_in hin.1 hin.2) hdg fin
              · have hgg : gg = 1 ∨ gg = 2 := by simpa using hk.1
                rcases hgg with rfl | rfl
                · exact va_bald (f := f) hx hb (vK1 hK g4) hB.2.1 qq 0 g1 rfl (i32_in hin.1 hin.2) hdg fin
                · exact va_zald (f := f) hx hb (vK1 hK g4) hB.2.1 qq 0 g1 rfl (i32_in hin.1 hin.2) hdg fin
            · subst g3
              rcases htag with ⟨-, rfl⟩ | ⟨-, rfl⟩
              · exact absurd hk.1 (by decide)
              · exact absurd hk.1 (by decide)
    · cases h
  · cases h
theorem to_aldL {st : rj_S} {sts : List rj_S} (X : rj_Xc p R s m args c D A H0 z nL cc o cs ss) (hdg : decode cc st.1 = .ok (.laload, 1)) (h : rj_ald [3] true st = some sts) (hs : ∀ t ∈ sts, rj_W p l e R s m args below meth c Q D A H0 z N0 σ0 w0 nL cs ss t) : rj_W p l e R s m args below meth c Q D A H0 z N0 σ0 w0 nL cs ss st := by
  obtain ⟨hx, hb, hml, hown, hts, hK, hA, -⟩ := X
  obtain ⟨pc, lo, sk, hp, K, wr⟩ := st
  intro ls stk H locs ⟨σ, ws, lv, hB, hl, h1, h2, h3⟩
  unfold rj_ald at h
  split at h
  · rename_i _ _ x qq sk' _ _ _ hst
    cases hst
    split at h
    · rename_i gg nn me ex hq
      dsimp only at h
      split at h
      · cases h
      · rename_i hk
        rw [Bool.and_eq_true] at hk
        split at h
        · cases h
        · rename_i K1 me1 v hv
          cases h
          match stk, h2 with
          | [], h2 => exact h2.elim
          | [_], h2 => exact h2.2.elim
          | vi :: va :: stk, ⟨⟨ki, ei, gi⟩, ⟨a, ha, ea⟩, h2⟩ =>
            subst ei
            subst ea
            have nx := n_norm (Gb_K hB) gi
            have hin := inb_ok (Gb_K hB) nx.1 hk.2
            obtain ⟨e1, g1, g2⟩ := hp_at h3 hB.1 ha hq
            have hgg : gg = 3 := by simpa using hk.1
            subst hgg
            rcases g2 with ⟨cA, f, rfl, g3, g4, g5⟩ | ⟨cA, f, rfl, g3, g4, g5⟩
            · exact absurd g3 (by decide)
            · obtain ⟨τ, u, t1, t2⟩ := ald1_ok (Gb_K hB) g5 nx.1 hin.1 hin.2 hv
              rw [nx.2] at t2 hin
              exact va_lald (f := f) hx hb (vK1 hK g4) hB.2.1 qq 0 g1 rfl (i32_in hin.1 hin.2) hdg (hs _ List.mem_cons_self ls (.long (f ki.toNatClampNeg) :: stk) H locs ⟨τ, ws, lv, Gb_up hB u, hl, lo_ag u.2.1 u.1 h1, ⟨⟨f ki.toNatClampNeg, rfl, t2⟩, sk_ag u.2.1 u.1 h2⟩, hp_know (hp_ag u.2.1 u.1 h3) g1 (Or.inr ⟨cA, f, rfl, rfl, g4, t1⟩)⟩)
    · cases h
  · cases h
theorem to_astI {st : rj_S} {sts : List rj_S} {tags : List Nat} {ins : Instr} (X : rj_Xc p R s m args c D A H0 z nL cc o cs ss) (htag : (ins = .iastore ∧ tags = [0]) ∨ (ins = .bastore ∧ tags = [1, 2])) (hdg : decode cc st.1 = .ok (ins, 1)) (h : rj_ast tags st = some sts) (hs : ∀ t ∈ sts, rj_W p l e R s m args below meth c Q D A H0 z N0 σ0 w0 nL cs ss t) : rj_W p l e R s m args below meth c Q D A H0 z N0 σ0 w0 nL cs ss st := by
  obtain ⟨hx, hb, hml, hown, hts, hK, hA, -⟩ := X
  obtain ⟨pc, lo, sk, hp, K, wr⟩ := st
  intro ls stk H locs ⟨σ, ws, lv, hB, hl, h1, h2, h3⟩
  unfold rj_ast at h
  split at h
  · rename_i _ _ xv x qq sk' _ _ _ hst
    cases hst
    split at h
    · rename_i gg nn me ex hq
      dsimp only at h
      split at h
      · cases h
      · rename_i hk
        rw [Bool.and_eq_true, Bool.and_eq_true] at hk
        obtain ⟨k1, k2, k3⟩ := hk
        split at h
        · cases h
        · rename_i me1 ex1 hv
          cases h
          match stk, h2 with
          | [], h2 => exact h2.elim
          | [_], h2 => exact h2.2.elim
          | [_, _], h2 => exact h2.2.2.elim
          | vv :: vi :: va :: stk, ⟨⟨kv, ev, gv⟩, ⟨ki, ei, gi⟩, ⟨a, ha, ea⟩, h2⟩ =>
            subst ev
            subst ei
            subst ea
            have nx := n_norm (Gb_K hB) gi
            have hin := inb_ok (Gb_K hB) nx.1 k2
            obtain ⟨e1, g1, g2⟩ := hp_at h3 hB.1 ha hq
            rcases g2 with ⟨cA, f, rfl, g3, g4, g5⟩ | ⟨cA, f, rfl, g3, g4, g5⟩
            · obtain ⟨t1, t2⟩ := ast1_ok (g := fun j => (upd f ki.toNatClampNeg kv j).toInt) (Gb_K hB) g5 nx.1 gv.1 hin.1 hin.2 (fun j => by
                rw [nx.2, gv.2]
                show (if j = ki.toNatClampNeg then kv else f j).toInt = _
                rw [cl_toNat]
                split <;> rfl) hv
              rw [nx.2] at hin
              rw [gv.2] at t2
              have fin : ∀ (H1 : Heap) (locs1 : List Loc), va_P D vwCl (ws.set qq (a, .inl (cA, nn, .inl (upd f ki.toNatClampNeg kv)))) H1 → va_D A (ws.set qq (a, .inl (cA, nn, .inl (upd f ki.toNatClampNeg kv)))) → va_S A H0 H1 locs1 → W p l e R s m args below meth c H1 locs1 cs ss Q (F0 m (pc + 1) ls stk) := fun H1 locs1 hP1 hD1 hS1 =>
                hs _ List.mem_cons_self _ _ _ _ (G_set (k := 0) hB hl h1 h2 h3 g1 (Or.inl ⟨cA, _, rfl, g3, g4, t1⟩) ⟨rfl, rfl, rfl, fun hj => absurd List.mem_cons_self hj⟩ hP1 hD1 hS1)
              rcases htag with ⟨rfl, rfl⟩ | ⟨rfl, rfl⟩
              · have hgg : gg = 0 := by simpa using k1
                subst hgg
                exact va_iast (f := f) hx hb (vK1 hK g4) hB.2.1 hB.2.2.1 hB.2.2.2.1 qq 0 g1 rfl (i32_in hin.1 hin.2) hdg fin
              · have hgg : gg = 1 ∨ gg = 2 := by simpa using k1
                rcases hgg with rfl | rfl
                · have k3 : (decide ((-128 : Int) ≤ (rj_rw qq (rj_norm K.1 x)).1) && decide ((rj_rw qq (rj_norm K.1 x)).2 ≤ 127)) = true := k3
                  rw [Bool.and_eq_true, decide_eq_true_eq, decide_eq_true_eq] at k3
                  have b1 : (rj_rw qq (rj_norm K.1 x)).1 ≤ kv.toInt := t2.1
                  have b2 : kv.toInt ≤ (rj_rw qq (rj_norm K.1 x)).2 := t2.2
                  refine va_bast (f := f) hx hb (vK1 hK g4) hB.2.1 hB.2.2.1 hB.2.2.2.1 qq 0 g1 rfl (i32_in hin.1 hin.2) hdg ?_
                  rw [nar8 (by omega) (by omega)]
                  exact fin
                · have k3 : (decide ((0 : Int) ≤ (rj_rw qq (rj_norm K.1 x)).1) && decide ((rj_rw qq (rj_norm K.1 x)).2 ≤ 1)) = true := k3
                  rw [Bool.and_eq_true, decide_eq_true_eq, decide_eq_true_eq] at k3
                  have b1 : (rj_rw qq (rj_norm K.1 x)).1 ≤ kv.toInt := t2.1
                  have b2 : kv.toInt ≤ (rj_rw qq (rj_norm K.1 x)).2 := t2.2
                  refine va_zast (f := f) hx hb (vK1 hK g4) hB.2.1 hB.2.2.1 hB.2.2.2.1 qq 0 g1 rfl (i32_in hin.1 hin.2) hdg ?_
                  rw [nar1 (by omega) (by omega)]
                  exact fin
            · subst g3
              rcases htag with ⟨-, rfl⟩ | ⟨-, rfl⟩
              · exact absurd k1 (by decide)
              · exact absurd k1 (by decide)
    · cases h
  · cases h
theorem to_astL {st : rj_S} {sts : List rj_S} (X : rj_Xc p R s m args c D A H0 z nL cc o cs ss) (hdg : decode cc st.1 = .ok (.lastore, 1)) (h : rj_lst st = some sts) (hs : ∀ t ∈ sts, rj_W p l e R s m args below meth c Q D A H0 z N0 σ0 w0 nL cs ss t) : rj_W p l e R s m args below meth c Q D A H0 z N0 σ0 w0 nL cs ss st := by
  obtain ⟨hx, hb, hml, hown, hts, hK, hA, -⟩ := X
  obtain ⟨pc, lo, sk, hp, K, wr⟩ := st
  intro ls stk H locs ⟨σ, ws, lv, hB, hl, h1, h2, h3⟩
  unfold rj_lst at h
  split at h
  · rename_i _ _ xv x qq sk' _ _ _ hst
    cases hst
    split at h
    · rename_i gg nn me ex hq
      dsimp only at h
      split at h
      · cases h
      · rename_i hk
        rw [Bool.and_eq_true] at hk
        obtain ⟨k1, k2⟩ := hk
        have k1 := Nat.eq_of_beq_eq_true k1
        subst k1
        split at h
        · cases h
        · rename_i me1 ex1 hv
          cases h
          match stk, h2 with
          | [], h2 => exact h2.elim
          | [_], h2 => exact h2.2.elim
          | [_, _], h2 => exact h2.2.2.elim
          | vv :: vi :: va :: stk, ⟨⟨kv, ev, gv⟩, ⟨ki, ei, gi⟩, ⟨a, ha, ea⟩, h2⟩ =>
            subst ev
            subst ei
            subst ea
            have nx := n_norm (Gb_K hB) gi
            have hin := inb_ok (Gb_K hB) nx.1 k2
            obtain ⟨e1, g1, g2⟩ := hp_at h3 hB.1 ha hq
            rcases g2 with ⟨cA, f, rfl, g3, g4, g5⟩ | ⟨cA, f, rfl, g3, g4, g5⟩
            · exact absurd g3 (by decide)
            · obtain ⟨t1, t2⟩ := ast1_ok (g := fun j => (vp_updL f ki.toNatClampNeg kv j).toInt) (Gb_K hB) g5 nx.1 gv.1 hin.1 hin.2 (fun j => by
                rw [nx.2, gv.2]
                show (if j = ki.toNatClampNeg then kv else f j).toInt = _
                rw [cl_toNat]
                split <;> rfl) hv
              rw [nx.2] at hin
              exact va_last (f := f) hx hb (vK1 hK g4) hB.2.1 hB.2.2.1 hB.2.2.2.1 qq 0 g1 rfl (i32_in hin.1 hin.2) hdg (fun H1 locs1 hP1 hD1 hS1 =>
                hs _ List.mem_cons_self _ _ _ _ (G_set (k := 0) hB hl h1 h2 h3 g1 (Or.inr ⟨cA, _, rfl, rfl, g4, t1⟩) ⟨rfl, rfl, rfl, fun hj => absurd List.mem_cons_self hj⟩ hP1 hD1 hS1))
    · cases h
  · cases h
end RT4
