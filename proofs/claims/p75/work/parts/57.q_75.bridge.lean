/-! from what v1 knows behind the constructors to what v2 knows -/
def bg_f (ci k : Nat) (v : ri_V) (o : Option rj_V) : Bool := match o, v with
  | none, .inl y => (match gi_f ci k with
    | some (false, lo, hi, _) => decide (lo ≤ y.1) && decide (y.2.1 ≤ hi)
    | _ => false)
  | none, .inr (.inl y) => (match gi_f ci k with
    | some (true, lo, hi, _) => decide (lo ≤ y.1) && decide (y.2.1 ≤ hi)
    | _ => false)
  | some (.inl f), .inl y => rj_beq f (rj_k y.1) && decide (y.1 = y.2.1)
  | some (.inr (.inl f)), .inr (.inl y) => rj_beq f (rj_k y.1) && decide (y.1 = y.2.1)
  | some (.inr (.inr (.inl q))), .inr (.inr (.inl (some r))) => Nat.beq q r
  | _, _ => false
theorem brf_ok {as : List Nat} {z : rj_Z} {σ : Nat → Int} {b ci k : Nat} {v : ri_V} {o : Option rj_V} {x1 : Value} (hz : z.1 = as) (h : ri_g as σ b v x1) (hb : bg_f ci k v o = true) : rj_fl z 0 (fun _ => 0) ci k o x1 := by
  unfold bg_f at hb
  split at hb
  · rename_i y
    split at hb
    · rename_i lo hi bt hg
      rw [Bool.and_eq_true, decide_eq_true_eq, decide_eq_true_eq] at hb
      obtain ⟨kk, e, n1, n2, -⟩ := h
      show rj_u ci k x1
      unfold rj_u
      rw [hg]
      exact ⟨kk, e, Int.le_trans hb.1 n1, Int.le_trans n2 hb.2⟩
    · cases hb
  · rename_i y
    split at hb
    · rename_i lo hi bt hg
      rw [Bool.and_eq_true, decide_eq_true_eq, decide_eq_true_eq] at hb
      obtain ⟨kk, e, n1, n2, -⟩ := h
      show rj_u ci k x1
      unfold rj_u
      rw [hg]
      exact ⟨kk, e, Int.le_trans hb.1 n1, Int.le_trans n2 hb.2⟩
    · cases hb
  · rename_i f y
    rw [Bool.and_eq_true, decide_eq_true_eq] at hb
    obtain ⟨kk, e, n1, n2, -⟩ := h
    refine ⟨kk, e, ?_⟩
    rw [beq_ok hb.1]
    exact ⟨wf_k, by rw [ev_k]; omega⟩
  · rename_i f y
    rw [Bool.and_eq_true, decide_eq_true_eq] at hb
    obtain ⟨kk, e, n1, n2, -⟩ := h
    refine ⟨kk, e, ?_⟩
    rw [beq_ok hb.1]
    exact ⟨wf_k, by rw [ev_k]; omega⟩
  · have e := Nat.eq_of_beq_eq_true hb
    subst e
    obtain ⟨a, h1, h2⟩ := h
    exact ⟨a, by rw [hz]; exact h1, h2⟩
  · cases hb
def bg_fs (ci : Nat) : Nat → List ri_V → List (Option rj_V) → Bool
  | _, [], [] => true
  | k, v :: vs, o :: os => bg_f ci k v o && bg_fs ci (k + 1) vs os
  | _, [], _ :: _ => false
  | _, _ :: _, [] => false
theorem brfs_ok {as : List Nat} {z : rj_Z} {σ : Nat → Int} {b ci : Nat} (hz : z.1 = as) : ∀ {fs : List ri_V} {vs : List Value} {os : List (Option rj_V)} {k : Nat}, ri_2 (ri_g as σ b) fs vs → bg_fs ci k fs os = true → os.length = vs.length ∧ ∀ (j : Nat) (o : Option rj_V) (x1 : Value), os[j]? = some o → vs[j]? = some x1 → rj_fl z 0 (fun _ => 0) ci (k + j) o x1
  | [], [], [], k, _, _ => ⟨rfl, fun j o x1 h => by simp at h⟩
  | [], _ :: _, _, _, h, _ => h.elim
  | _ :: _, [], _, _, h, _ => h.elim
  | [], _, _ :: _, _, _, h => by cases h
  | _ :: _, _, [], _, _, h => by cases h
  | f :: fs, v :: vs, o :: os, k, h, hb => by
    unfold bg_fs at hb
    rw [Bool.and_eq_true] at hb
    obtain ⟨g1, g2⟩ := brfs_ok hz h.2 hb.2
    refine ⟨by rw [List.length_cons, List.length_cons, g1], fun j o1 x1 h1 h2 => ?_⟩
    match j, h1, h2 with
    | 0, h1, h2 =>
      cases h1
      cases h2
      exact brf_ok hz h.1 hb.1
    | j + 1, h1, h2 =>
      have h3 := g2 j o1 x1 h1 h2
      rw [show k + (j + 1) = k + 1 + j by omega]
      exact h3
def bg_m (n : Nat) (pre : List (Int × Int)) (df : Int × Int) (p : rj_F × rj_F) : Bool := match p with
  | ((j, []), (v, [])) => decide (0 ≤ j) && (decide (j < (n : Int)) && (decide ((ri_el pre df j.toNat).1 = v) && decide ((ri_el pre df j.toNat).2 = v)))
  | _ => false
def bg_e (q : Nat) (pre : List (Int × Int)) (df : Int × Int) (j : Nat) : Bool := decide ((rj_er q j).1 ≤ (ri_el pre df j).1) && decide ((ri_el pre df j).2 ≤ (rj_er q j).2)
def bg_t (pre : List (Int × Int)) (df : Int × Int) (j : Nat) : Bool := decide ((ri_el pre df j).2 ≤ 2)
def bg_c (q : Nat) (c : ri_C) (h : rj_H) : Bool := match c, h with
  | .inl (ci, fs), .inl (cj, os) => Nat.beq ci cj && bg_fs ci 0 fs os
  | .inr (.inl (g, n, pre, df)), .inr (.inl (g2, n2, me, [])) => Nat.beq g g2 && (Nat.beq n n2 && ((List.range n).all (bg_e q pre df) && (me.all (bg_m n pre df) && (!(Nat.beq q 116) || (List.range n).all (bg_t pre df)))))
  | .inr (.inr (ci, els)), .inr (.inr (cj, el2)) => Nat.beq ci cj && decide (els = el2.map some)
  | _, _ => false
theorem brar_ok {q n : Nat} {pre : List (Int × Int)} {df : Int × Int} {me : List (rj_F × rj_F)} {f : Nat → Int} (hf : ∀ j, j < n → ri_i (ri_el pre df j) (f j)) (h1 : (List.range n).all (bg_e q pre df) = true) (h2 : me.all (bg_m n pre df) = true) (h3 : (!(Nat.beq q 116) || (List.range n).all (bg_t pre df)) = true) : rj_ar 0 (fun _ => 0) q n me [] f := by
  refine ⟨fun j hj => ?_, fun p hp => ?_, fun _ h => absurd h List.not_mem_nil, fun hq j hj => Or.inr (fun _ => ?_)⟩
  · have a := List.all_eq_true.mp h1 j (List.mem_range.mpr hj)
    unfold bg_e at a
    rw [Bool.and_eq_true, decide_eq_true_eq, decide_eq_true_eq] at a
    have b := hf j hj
    exact ⟨Int.le_trans a.1 b.1, Int.le_trans b.2 a.2⟩
  · have a := List.all_eq_true.mp h2 p hp
    unfold bg_m at a
    split at a
    · rename_i j v
      simp only [Bool.and_eq_true, decide_eq_true_eq] at a
      obtain ⟨a1, a2, a3, a4⟩ := a
      have b := hf j.toNat (by omega)
      have e1 : rj_ev (fun _ => 0) ((j, []) : rj_F) = j := ev_k _ j
      have e2 : rj_ev (fun _ => 0) ((v, []) : rj_F) = v := ev_k _ v
      refine ⟨wf_k, wf_k, ?_, ?_, ?_⟩
      · rw [e1]; exact a1
      · rw [e1]; exact a2
      · rw [e1, e2]
        have b1 := b.1
        have b2 := b.2
        rw [a3] at b1
        rw [a4] at b2
        omega
    · cases a
  · subst hq
    rw [Bool.or_eq_true] at h3
    rcases h3 with h3 | h3
    · exact absurd h3 (by decide)
    · have a := List.all_eq_true.mp h3 (3 * j + 2) (List.mem_range.mpr hj)
      unfold bg_t at a
      rw [decide_eq_true_eq] at a
      exact Int.le_trans (hf (3 * j + 2) hj).2 a
theorem brc_ok {U : State} {as : List Nat} {z : rj_Z} {σ : Nat → Int} {b q : Nat} {c : ri_C} {e : va_E} {h : rj_H} (hz : z.1 = as) (hc : ri_c U as σ b c e) (hb : bg_c q c h = true) : rj_c U z 0 (fun _ => 0) q h e := by
  unfold bg_c at hb
  split at hb
  · rename_i ci fs cj os
    rw [Bool.and_eq_true] at hb
    have e1 := Nat.eq_of_beq_eq_true hb.1
    subst e1
    obtain ⟨vs, h1, h2⟩ := hc
    obtain ⟨g1, g2⟩ := brfs_ok hz h2 hb.2
    exact ⟨vs, h1, g1, fun k o x1 a1 a2 => by have := g2 k o x1 a1 a2; rw [Nat.zero_add] at this; exact this⟩
  · rename_i g n pre df g2 n2 me
    simp only [Bool.and_eq_true] at hb
    obtain ⟨b1, b2, b3, b4, b5⟩ := hb
    have e1 := Nat.eq_of_beq_eq_true b1
    have e2 := Nat.eq_of_beq_eq_true b2
    subst e1
    subst e2
    rcases hc with ⟨cA, f, h1, h2, h3, h4⟩ | ⟨cA, f, h1, h2, h3, h4⟩
    · exact Or.inl ⟨cA, f, h1, h2, h3, brar_ok h4 b3 b4 b5⟩
    · exact Or.inr ⟨cA, f, h1, h2, h3, brar_ok h4 b3 b4 b5⟩
  · rename_i ci els cj el2
    rw [Bool.and_eq_true, decide_eq_true_eq] at hb
    have e1 := Nat.eq_of_beq_eq_true hb.1
    subst e1
    obtain ⟨cA, f, r, h1, h2, h3, h4⟩ := hc
    rw [hb.2] at h1 h4
    refine ⟨cA, f, r, by rw [h1, List.length_map], h2, h3, fun j el hj => ?_⟩
    have a := h4 j (some el) (by rw [List.getElem?_map, hj]; rfl)
    obtain ⟨a1, a2, a3⟩ := a
    exact ⟨a1, by rw [hz]; exact a2, a3⟩
  · cases hb
def bg_L : Nat → List ri_C → List rj_H → Bool
  | _, [], [] => true
  | q, c :: cs, h :: hs => bg_c q c h && bg_L (q + 1) cs hs
  | _, [], _ :: _ => false
  | _, _ :: _, [] => false
theorem brL_ok {U : State} {as : List Nat} {z : rj_Z} {σ : Nat → Int} {b : Nat} (hz : z.1 = as) : ∀ {hp : List ri_C} {ws : va_W} {hs : List rj_H} {q : Nat}, ri_hp U as σ b hp ws → bg_L q hp hs = true → hs.length = ws.length ∧ ∀ (j : Nat) (c : rj_H) (p : Nat × va_E), hs[j]? = some c → ws[j]? = some p → rj_c U z 0 (fun _ => 0) (q + j) c p.2
  | [], [], [], q, _, _ => ⟨rfl, fun j o x1 h => by simp at h⟩
  | [], _ :: _, _, _, h, _ => h.elim
  | _ :: _, [], _, _, h, _ => h.elim
  | [], _, _ :: _, _, _, h => by cases h
  | _ :: _, _, [], _, _, h => by cases h
  | c :: cs, w :: ws, h :: hs, q, hc, hb => by
    unfold bg_L at hb
    rw [Bool.and_eq_true] at hb
    obtain ⟨g1, g2⟩ := brL_ok hz hc.2 hb.2
    refine ⟨by rw [List.length_cons, List.length_cons, g1], fun j c1 p1 h1 h2 => ?_⟩
    match j, h1, h2 with
    | 0, h1, h2 =>
      cases h1
      cases h2
      exact brc_ok hz hc.1 hb.1
    | j + 1, h1, h2 =>
      have h3 := g2 j c1 p1 h1 h2
      rw [show q + (j + 1) = q + 1 + j by omega]
      exact h3
theorem bg_hp {U : State} {z : rj_Z} {σ : Nat → Int} {b : Nat} {hp : List ri_C} {ws : va_W} {hs : List rj_H} (hz : z.1 = ws.map Prod.fst) (h : ri_hp U (ws.map Prod.fst) σ b hp ws) (hb : bg_L 0 hp hs = true) : rj_hp U z 0 (fun _ => 0) hs ws := by
  obtain ⟨g1, g2⟩ := brL_ok hz h hb
  exact ⟨g1, fun q c p h1 h2 => by have := g2 q c p h1 h2; rw [Nat.zero_add] at this; exact this⟩
