/-! v2: the run; loops -/
/-- the row that is checked: base and limit, as forms; what they say -/
def rj_qkf (K : rj_K) (lo : List (Nat × rj_V)) (ck : Nat × (Nat × Int) × Nat) : Option (rj_F × rj_F) := match ri_key lo ck.2.1.1, ri_key lo ck.2.2 with
  | some v, some u => (match rj_vf v, rj_vf u with
    | some f, some g => some (rj_norm K.1 (rj_scale ck.2.1.2 f), g)
    | _, _ => none)
  | _, _ => none
def rj_qkP (ck : rj_Ck) (lv : List (Nat × Value)) (ws : va_W) : Prop := match ck with
  | none => True
  | some (q, (j, c), i) => 0 ≤ c * rj_kv lv j ∧ ∀ n : Nat, 3 * (n : Int) < rj_kv lv i → rj_in (0, 2) (rj_wev ws q ((c * rj_kv lv j).toNat + 3 * n)) ∧ rj_in (0, 24) (rj_wev ws q ((c * rj_kv lv j).toNat + 3 * n + 1)) ∧ rj_in (0, 11) (rj_wev ws q ((c * rj_kv lv j).toNat + 3 * n + 2))
theorem kv_n {z : rj_Z} {N : Nat} {σ : Nat → Int} {lo : List (Nat × rj_V)} {lv : List (Nat × Value)} {j : Nat} {v : rj_V} {f : rj_F} (h : rj_lo z N σ lo lv) (hv : ri_key lo j = some v) (hf : rj_vf v = some f) : rj_n N σ f (rj_kv lv j) := by
  obtain ⟨x, g1, g2⟩ := rk_3 h hv
  have e : rj_kv lv j = rj_num x := by
    unfold rj_kv
    rw [g1]
  rw [e]
  exact vf_ok g2 hf
theorem qkf_ok {z : rj_Z} {σ : Nat → Int} {K : rj_K} {lo : List (Nat × rj_V)} {lv : List (Nat × Value)} {q j i : Nat} {c : Int} {ba li : rj_F} (hK : rj_sat σ K) (h : rj_lo z K.1.length σ lo lv) (hc : rj_qkf K lo (q, (j, c), i) = some (ba, li)) : rj_n K.1.length σ ba (c * rj_kv lv j) ∧ rj_n K.1.length σ li (rj_kv lv i) := by
  unfold rj_qkf at hc
  dsimp only at hc
  split at hc
  · rename_i v u hv hu
    split at hc
    · rename_i f g hf hg
      cases hc
      exact ⟨n_norm hK (n_scale c (kv_n h hv hf)), kv_n h hu hg⟩
    · cases hc
  · cases hc
/-- at the start: nothing is checked yet -/
def rj_qk0 (K : rj_K) (kl : List (Nat × rj_V)) (ck : rj_Ck) : Bool := match ck with
  | none => true
  | some x => match rj_qkf K kl x with
    | none => false
    | some (ba, li) => rj_le K (rj_scale (-1) ba) && decide ((rj_iv K.1 li).2 ≤ 0)
theorem qk0_ok {z : rj_Z} {σ : Nat → Int} {K : rj_K} {kl : List (Nat × rj_V)} {lk : List (Nat × Value)} {ck : rj_Ck} {ws : va_W} (hK : rj_sat σ K) (h : rj_lo z K.1.length σ kl lk) (hc : rj_qk0 K kl ck = true) : rj_qkP ck lk ws := by
  match ck, hc with
  | none, _ => trivial
  | some (q, (j, c), i), hc =>
    unfold rj_qk0 at hc
    dsimp only at hc
    split at hc
    · cases hc
    · rename_i ba li hf
      rw [Bool.and_eq_true, decide_eq_true_eq] at hc
      obtain ⟨n1, n2⟩ := qkf_ok hK h hf
      have b1 := le_ok hK (wf_scale n1.1) hc.1
      rw [ev_scale, n1.2] at b1
      have b2 := iv_ok hK.1 n2.1
      rw [n2.2] at b2
      exact ⟨by omega, fun n hn => absurd hn (by omega)⟩
/-- what is known of the row goes into its cell -/
def rj_qkA (K : rj_K) (lg : List (Nat × rj_V)) (hp : List rj_H) (ck : rj_Ck) : Option (List rj_H) := match ck with
  | none => some hp
  | some x => match rj_qkf K lg x, hp[x.1]? with
    | some (ba, li), some (.inr (.inl (g, n, me, ex))) => some (hp.set x.1 (.inr (.inl (g, n, me, .inl (ba, li) :: ex))))
    | _, _ => none
theorem wev_i {ws : va_W} {q a n : Nat} {cA : ClassId} {f : Nat → Int32} (h : ws[q]? = some (a, .inl (cA, n, .inl f))) (j : Nat) : rj_wev ws q j = (f j).toInt := by
  unfold rj_wev
  rw [h]
theorem wev_l {ws : va_W} {q a n : Nat} {cA : ClassId} {f : Nat → Int64} (h : ws[q]? = some (a, .inl (cA, n, .inr (.inl f)))) (j : Nat) : rj_wev ws q j = (f j).toInt := by
  unfold rj_wev
  rw [h]
theorem ar_qk {N : Nat} {σ : Nat → Int} {q n : Nat} {me : List (rj_F × rj_F)} {ex : List rj_X} {f : Nat → Int} {ba li : rj_F} {b l : Int} (h : rj_ar N σ q n me ex f) (n1 : rj_n N σ ba b) (n2 : rj_n N σ li l) (h0 : 0 ≤ b) (hc : ∀ j : Nat, 3 * (j : Int) < l → rj_in (0, 2) (f (b.toNat + 3 * j)) ∧ rj_in (0, 24) (f (b.toNat + 3 * j + 1)) ∧ rj_in (0, 11) (f (b.toNat + 3 * j + 2))) : rj_ar N σ q n me (.inl (ba, li) :: ex) f := by
  obtain ⟨h1, h2, h3, h4⟩ := h
  refine ⟨h1, h2, fun x hx => ?_, fun hq j hj => ?_⟩
  · rcases List.mem_cons.mp hx with rfl | hx
    · refine ⟨n1.1, n2.1, ?_⟩
      rw [n1.2, n2.2]
      exact ⟨h0, hc⟩
    · exact h3 x hx
  · rcases h4 hq j hj with ⟨e, he, g⟩ | g
    · exact Or.inl ⟨e, List.mem_cons_of_mem _ he, g⟩
    · exact Or.inr g
theorem qkA_ok {U : State} {z : rj_Z} {σ : Nat → Int} {K : rj_K} {lg : List (Nat × rj_V)} {lk : List (Nat × Value)} {hp hp1 : List rj_H} {ws : va_W} {ck : rj_Ck} (hK : rj_sat σ K) (hl : rj_lo z K.1.length σ lg lk) (hH : rj_hp U z K.1.length σ hp ws) (hP : rj_qkP ck lk ws) (h : rj_qkA K lg hp ck = some hp1) : rj_hp U z K.1.length σ hp1 ws := by
  match ck, hP, h with
  | none, _, h =>
    cases h
    exact hH
  | some (q, (j, c), i), ⟨p1, p2⟩, h =>
    unfold rj_qkA at h
    dsimp only at h
    split at h
    · rename_i ba li g n me ex hf hq
      cases h
      obtain ⟨n1, n2⟩ := qkf_ok hK hl hf
      have hlt : q < ws.length := by rw [← hH.1]; exact (List.getElem?_eq_some_iff.mp hq).1
      have hw := List.getElem?_eq_getElem hlt
      have hc := hH.2 q _ _ hq hw
      cases hp : ws[q] with
      | mk ad en =>
        rw [hp] at hw hc
        dsimp only at hc
        rcases hc with ⟨cA, f, rfl, g3, g4, g5⟩ | ⟨cA, f, rfl, g3, g4, g5⟩
        · refine hp_know hH hw (Or.inl ⟨cA, f, rfl, g3, g4, ar_qk g5 n1 n2 p1 (fun j hj => ?_)⟩)
          have := p2 j hj
          rw [wev_i hw, wev_i hw, wev_i hw] at this
          exact this
        · refine hp_know hH hw (Or.inr ⟨cA, f, rfl, g3, g4, ar_qk g5 n1 n2 p1 (fun j hj => ?_)⟩)
          have := p2 j hj
          rw [wev_l hw, wev_l hw, wev_l hw] at this
          exact this
    · cases h
def rj_rg1 (K : rj_K) (r : Int × Int) (o : Option rj_F) : Bool := match o with
  | none => false
  | some v => decide (r.1 ≤ (rj_iv K.1 v).1) && decide ((rj_iv K.1 v).2 ≤ r.2)
/-- at the way back: one more of the row is checked -/
def rj_qkB (md : rj_Wr) (lg kb : List (Nat × rj_V)) (hp : List rj_H) (K : rj_K) (ck : rj_Ck) : Bool := match ck with
  | none => true
  | some (q, (j, c), i) => match ri_key lg j, ri_key kb j, ri_key lg i, ri_key kb i with
    | some vj, some uj, some vi, some ui => (match rj_vf vj, rj_vf uj, rj_vf vi, rj_vf ui, hp[q]? with
      | some fj, some gj, some fi, some gi, some (.inr (.inl (_, _, me, _))) =>
        (decide (c = 0) || rj_beq fj gj) && (rj_beq gi (rj_plus fi 3) && (!(md.any (fun y => Nat.beq y.1 q && Nat.beq y.2 0)) && (decide (0 ≤ (rj_iv K.1 fi).1) && (rj_dv 3 fi.2 && (decide (fi.1 % 3 = 0) && (rj_rg1 K (0, 2) (rj_find me (rj_norm K.1 (rj_add (rj_scale c fj) fi))) && (rj_rg1 K (0, 24) (rj_find me (rj_norm K.1 (rj_plus (rj_add (rj_scale c fj) fi) 1))) && rj_rg1 K (0, 11) (rj_find me (rj_norm K.1 (rj_plus (rj_add (rj_scale c fj) fi) 2))))))))))
      | _, _, _, _, _ => false)
    | _, _, _, _ => false
def rj_stop (md : Option (Nat × Nat × Nat)) (pc : Nat) : Bool := match md with
  | none => false
  | some (h, lo, hi) => Nat.beq pc h || (Nat.blt pc lo || Nat.blt hi pc)
def rj_sg1 (lo : List (Nat × rj_V)) (x : Nat × Nat) : Bool := match ri_key lo x.1 with
  | some (.inr (.inr (.inl q))) => Nat.beq q x.2
  | _ => false
def rj_flp : List rj_Lp → Nat → List (Nat × rj_V) → Option rj_Lp
  | [], _, _ => none
  | sp :: r, pc, lo => match Nat.beq sp.1.1 pc && sp.2.1.all (rj_sg1 lo) with
    | true => some sp
    | false => rj_flp r pc lo
def rj_bk (en : rj_En) (sp : rj_Lp) (kl lg : List (Nat × rj_V)) (fx : rj_F) (t : rj_S) : Bool := match t with
  | (_, lo, sk, hp, K, wr) => match rj_pick sp.2.2.1 lo with
    | none => false
    | some kb => match rj_mf kb hp sp.2.2.2.2.2.1.1 with
      | none => false
      | some fb => sk.isEmpty && (rj_subW wr sp.2.2.2.1 && (rj_wiL hp K wr && (rj_inA K sp.2.2.1 kl kb && (rj_chL kb en hp K sp.2.2.2.2.1 && (rj_le K (rj_plus (match sp.2.2.2.2.2.1.2 with
        | true => rj_sub fx fb
        | false => rj_sub fb fx) 1) && rj_qkB sp.2.2.2.1 lg kb hp K sp.2.2.2.2.2.2)))))
def rj_ext (h : Nat) (wr md : rj_Wr) : List rj_S → List rj_S
  | [] => []
  | t :: r => match Nat.beq t.1 h with
    | true => rj_ext h wr md r
    | false => (t.1, t.2.1, t.2.2.1, t.2.2.2.1, t.2.2.2.2.1, rj_unw (rj_unw t.2.2.2.2.2 wr) md) :: rj_ext h wr md r
def rj_loop (en : rj_En) (sp : rj_Lp) (body : rj_S → Option (List rj_S)) (st : rj_S) : Option (List rj_S) := match st with
  | (pc, lo, sk, hp, K, wr) => match rj_pick sp.2.2.1 lo with
    | none => none
    | some kl => match sk.isEmpty && (rj_wiL hp K wr && (rj_inA K sp.2.2.1 kl kl && (rj_chL kl en hp K sp.2.2.2.2.1 && (sp.2.2.2.1.all rj_wk && rj_qk0 K kl sp.2.2.2.2.2.2)))) with
      | false => none
      | true => match rj_gen K sp.2.2.1 kl with
        | (K1, lg) => match rj_rdm (rj_hv hp sp.2.2.2.1) K1 sp.2.2.2.2.2.1.1 with
          | (hp2, K2) => match rj_qkA K2 lg hp2 sp.2.2.2.2.2.2 with
            | none => none
            | some hp3 => match rj_asL lg en sp.2.2.2.2.1 hp3 K2 with
              | none => none
              | some none => some []
              | some (some (hp4, K4)) => match rj_mf lg hp4 sp.2.2.2.2.2.1.1 with
                | none => none
                | some fx => match body (pc, lg, [], hp4, K4, []) with
                  | none => none
                  | some outs => match outs.all (fun t => !(Nat.beq t.1 pc) || rj_bk en sp kl lg fx t) with
                    | false => none
                    | true => some (rj_ext pc wr sp.2.2.2.1 outs)
def rj_all (g : rj_S → Option (List rj_S)) : List rj_S → Option (List rj_S)
  | [] => some []
  | s :: r => match g s with
    | none => none
    | some a => match rj_all g r with
      | none => none
      | some b => some (a ++ b)
theorem jall_sub {g : rj_S → Option (List rj_S)} : ∀ {l r : List rj_S}, rj_all g l = some r → ∀ s ∈ l, ∃ a, g s = some a ∧ ∀ t ∈ a, t ∈ r
  | [], _, _, s, hs => absurd hs List.not_mem_nil
  | x :: l, r, h, s, hs => by
    unfold rj_all at h
    split at h
    · cases h
    · rename_i a ha
      split at h
      · cases h
      · rename_i b hb
        cases h
        rcases List.mem_cons.mp hs with rfl | hs
        · exact ⟨a, ha, fun t ht => List.mem_append_left _ ht⟩
        · obtain ⟨a2, h1, h2⟩ := jall_sub hb s hs
          exact ⟨a2, h1, fun t ht => List.mem_append_right _ (h2 t ht)⟩
def rj_one (ct : ri_T) (step : Instr → Nat → rj_S → Option (List rj_S)) (st : rj_S) : Option (List rj_S) := match ri_at ct st.1 with
  | none => none
  | some (i, len) => step i len st
def rj_run (ct : ri_T) (en : rj_En) (lps : List rj_Lp) (step : Instr → Nat → rj_S → Option (List rj_S)) : Nat → Option (Nat × Nat × Nat) → rj_S → Option (List rj_S)
  | 0, _, _ => none
  | f + 1, md, st => match rj_stop md st.1 with
    | true => some [st]
    | false => match rj_flp lps st.1 st.2.1 with
      | some sp => (match rj_loop en sp (fun x => match rj_one ct step x with
          | none => none
          | some sts => rj_all (rj_run ct en lps step f (some sp.1)) sts) st with
        | none => none
        | some ext => rj_all (rj_run ct en lps step f md) ext)
      | none => match ri_at ct st.1 with
        | none => none
        | some (i, len) => match ri_isret i with
          | true => some [st]
          | false => match step i len st with
            | none => none
            | some [s1] => rj_run ct en lps step f md s1
            | some sts => rj_all (rj_run ct en lps step f md) sts
