/-! v2: what may be written is forgotten -/
def rj_hv1 (hp : List rj_H) (s : Nat × Nat) : List rj_H := match hp[s.1]?, s.2 with
  | some (.inl (ci, fs)), k + 1 => (match gi_f ci k with
    | some _ => hp.set s.1 (.inl (ci, fs.set k none))
    | none => hp)
  | some (.inr (.inl (g, n, _, _))), 0 => hp.set s.1 (.inr (.inl (g, n, [], [])))
  | _, _ => hp
/-- a slot that may be written: a field that is a number, an array of numbers -/
def rj_wk (s : Nat × Nat) : Bool := match gi_h[s.1]?, s.2 with
  | some (.inl (ci, _)), k + 1 => (gi_f ci k).isSome
  | some (.inr (.inl _)), 0 => true
  | _, _ => false
def rj_hv (hp : List rj_H) (md : rj_Wr) : List rj_H := md.foldl rj_hv1 hp
/-- as rj_c, but for the slots that B says -/
def rj_cB (U : State) (z : rj_Z) (N : Nat) (σ : Nat → Int) (B : Nat × Nat → Prop) (q : Nat) (c : rj_H) (e : va_E) : Prop := match c with
  | .inl (ci, fs) => ∃ vs, e = .inr (ci, vs) ∧ fs.length = vs.length ∧ ∀ (k : Nat) (o : Option rj_V) (x : Value), fs[k]? = some o → vs[k]? = some x → (B (q, k + 1) ∧ ∃ r, gi_f ci k = some r) ∨ rj_fl z N σ ci k o x
  | .inr (.inl (g, n, me, ex)) => (B (q, 0) ∧ rj_c U z N σ q (.inr (.inl (g, n, [], []))) e) ∨ rj_c U z N σ q (.inr (.inl (g, n, me, ex))) e
  | .inr (.inr (ci, els)) => rj_c U z N σ q (.inr (.inr (ci, els))) e
def rj_hB (U : State) (z : rj_Z) (N : Nat) (σ : Nat → Int) (B : Nat × Nat → Prop) (hp : List rj_H) (w : va_W) : Prop := hp.length = w.length ∧ ∀ (q : Nat) (c : rj_H) (p : Nat × va_E), hp[q]? = some c → w[q]? = some p → rj_cB U z N σ B q c p.2
section HV
variable {U : State} {z : rj_Z} {N : Nat} {σ : Nat → Int}
theorem hB_end {B : Nat × Nat → Prop} {hp : List rj_H} {w : va_W} (h : rj_hB U z N σ B hp w) (hB : ∀ s, ¬ B s) : rj_hp U z N σ hp w := by
  refine ⟨h.1, fun q c p hc hw => ?_⟩
  have h1 := h.2 q c p hc hw
  match c, h1 with
  | .inl (ci, fs), ⟨vs, e, e1, e2⟩ => exact ⟨vs, e, e1, fun k o x ho hx => (e2 k o x ho hx).resolve_left (fun q => hB _ q.1)⟩
  | .inr (.inl (g, n, me, ex)), h1 => exact h1.resolve_left (fun q => hB _ q.1)
  | .inr (.inr (ci, els)), h1 => exact h1
theorem cB_mono {B B1 : Nat × Nat → Prop} {q : Nat} {c : rj_H} {e : va_E} (h : rj_cB U z N σ B q c e) (hm : ∀ k, B (q, k) → B1 (q, k)) : rj_cB U z N σ B1 q c e := by
  match c, h with
  | .inl (ci, fs), ⟨vs, e, e1, e2⟩ => exact ⟨vs, e, e1, fun k o x ho hx => (e2 k o x ho hx).imp (fun q => ⟨hm _ q.1, q.2⟩) id⟩
  | .inr (.inl (g, n, me, ex)), h => exact h.imp (fun q => ⟨hm _ q.1, q.2⟩) id
  | .inr (.inr (ci, els)), h => exact h
theorem c_bare {w : va_W} {q a g n : Nat} {me : List (rj_F × rj_F)} {ex : List rj_X} {e : va_E} (hi : rj_inv U z w) (hw : w[q]? = some (a, e)) (h : rj_c U z N σ q (.inr (.inl (g, n, me, ex))) e) : rj_c U z N σ q (.inr (.inl (g, n, [], []))) e := by
  rcases h with ⟨cA, f, e1, h2, h3, -⟩ | ⟨cA, f, e1, h2, h3, -⟩
  · subst e1
    exact Or.inl ⟨cA, f, rfl, h2, h3, inv_i hi hw⟩
  · subst e1
    exact Or.inr ⟨cA, f, rfl, h2, h3, inv_l hi hw⟩
theorem hv1_ok {B : Nat × Nat → Prop} {hp : List rj_H} {w : va_W} {s : Nat × Nat} (hi : rj_inv U z w) (h : rj_hB U z N σ B hp w) : rj_hB U z N σ (fun t => B t ∧ t ≠ s) (rj_hv1 hp s) w := by
  obtain ⟨sq, sk⟩ := s
  have keep : ∀ (q : Nat) (c : rj_H) (p : Nat × va_E), q ≠ sq → hp[q]? = some c → w[q]? = some p → rj_cB U z N σ (fun t => B t ∧ t ≠ (sq, sk)) q c p.2 := fun q c p hq hc hw => cB_mono (h.2 q c p hc hw) (fun k hk => ⟨hk, fun e => hq (by cases e; rfl)⟩)
  unfold rj_hv1
  dsimp only
  split
  · rename_i ci fs k hq
    split
    · rename_i r hg
      refine ⟨by rw [List.length_set]; exact h.1, fun q c p hc hw => ?_⟩
      by_cases hqq : sq = q
      · subst hqq
        rw [List.getElem?_set] at hc
        simp only [if_true] at hc
        split at hc
        · cases hc
          obtain ⟨vs, e, e1, e2⟩ := h.2 sq _ p hq hw
          refine ⟨vs, e, by rw [List.length_set]; exact e1, fun j o x ho hx => ?_⟩
          by_cases hj : k = j
          · subst hj
            rw [List.getElem?_set] at ho
            simp only [if_true] at ho
            split at ho
            · cases ho
              obtain ⟨pa, pe⟩ := p
              dsimp only at e
              subst e
              exact Or.inr (inv_f hi hw hx hg)
            · cases ho
          · rw [List.getElem?_set_ne hj] at ho
            exact (e2 j o x ho hx).imp (fun q => ⟨⟨q.1, fun e => hj (by cases e; rfl)⟩, q.2⟩) id
        · cases hc
      · rw [List.getElem?_set_ne hqq] at hc
        exact keep q c p (fun e => hqq e.symm) hc hw
    · rename_i hg
      refine ⟨h.1, fun q c p hc hw => ?_⟩
      by_cases hqq : sq = q
      · subst hqq
        rw [hq] at hc
        cases hc
        obtain ⟨vs, e, e1, e2⟩ := h.2 sq _ p hq hw
        refine ⟨vs, e, e1, fun j o x ho hx => ?_⟩
        rcases e2 j o x ho hx with ⟨b1, b2⟩ | hf
        · by_cases hj : k = j
          · subst hj
            obtain ⟨r, hr⟩ := b2
            rw [hg] at hr
            cases hr
          · exact Or.inl ⟨⟨b1, fun e => hj (by cases e; rfl)⟩, b2⟩
        · exact Or.inr hf
      · exact keep q c p (fun e => hqq e.symm) hc hw
  · rename_i g n me ex hq
    refine ⟨by rw [List.length_set]; exact h.1, fun q c p hc hw => ?_⟩
    by_cases hqq : sq = q
    · subst hqq
      rw [List.getElem?_set] at hc
      simp only [if_true] at hc
      split at hc
      · cases hc
        obtain ⟨pa, pe⟩ := p
        rcases h.2 sq _ _ hq hw with ⟨-, hr⟩ | hr
        · exact Or.inr hr
        · exact Or.inr (c_bare hi hw hr)
      · cases hc
    · rw [List.getElem?_set_ne hqq] at hc
      exact keep q c p (fun e => hqq e.symm) hc hw
  · rename_i h1 h2
    refine ⟨h.1, fun q c p hc hw => ?_⟩
    by_cases hqq : sq = q
    · subst hqq
      have hr := h.2 sq c p hc hw
      match c, hc, hr with
      | .inl (ci, fs), hc, ⟨vs, e, e1, e2⟩ =>
        refine ⟨vs, e, e1, fun j o x ho hx => (e2 j o x ho hx).imp (fun b => ⟨⟨b.1, fun e => ?_⟩, b.2⟩) id⟩
        cases e
        exact h1 ci fs j hc rfl
      | .inr (.inl (g, n, me, ex)), hc, hr =>
        refine hr.imp (fun b => ⟨⟨b.1, fun e => ?_⟩, b.2⟩) id
        cases e
        exact h2 g n me ex hc rfl
      | .inr (.inr (ci, els)), hc, hr => exact hr
    · exact keep q c p (fun e => hqq e.symm) hc hw
theorem hvL_ok {w : va_W} (hi : rj_inv U z w) : ∀ (md : rj_Wr) {B : Nat × Nat → Prop} {hp : List rj_H}, rj_hB U z N σ B hp w → (∀ s, B s → s ∈ md) → rj_hp U z N σ (rj_hv hp md) w
  | [], B, hp, h, hB => hB_end h (fun s hs => absurd (hB s hs) List.not_mem_nil)
  | s :: md, B, hp, h, hB => hvL_ok hi md (hv1_ok (s := s) hi h) (fun t ht => (List.mem_cons.mp (hB t ht.1)).resolve_left ht.2)
/-- what was written since is told by wr -/
theorem hB_un {w w1 : va_W} {wr : rj_Wr} {hp : List rj_H} (h : rj_hp U z N σ hp w) (hun : rj_un w w1 wr) (hi : rj_inv U z w1) (hg : ∀ s ∈ wr, rj_wk s = true) : rj_hB U z N σ (fun s => s ∈ wr) hp w1 := by
  refine ⟨h.1.trans hun.1.symm, fun q c p hc hw1 => ?_⟩
  have hlt : q < w.length := by rw [← hun.1]; exact (List.getElem?_eq_some_iff.mp hw1).1
  have hw := List.getElem?_eq_getElem hlt
  generalize w[q] = p0 at hw
  have h0 := h.2 q c p0 hc hw
  have h1 := hun.2 q p0 p hw hw1
  obtain ⟨a0, e0⟩ := p0
  obtain ⟨a, e⟩ := p
  dsimp only at h0 h1 ⊢
  match c, hc, h0 with
  | .inl (ci, fs), hc, ⟨v0, ee, g1, g2⟩ =>
    subst ee
    match e, hw1, h1 with
    | .inr (cj, v), hw1, ⟨u1, u2, u3⟩ =>
      subst u1
      refine ⟨v, rfl, g1.trans u2.symm, fun k o x ho hx => ?_⟩
      by_cases hm : (q, k + 1) ∈ wr
      · refine Or.inl ⟨hm, ?_⟩
        have hk := hg _ hm
        unfold rj_wk at hk
        dsimp only at hk
        split at hk
        · rename_i cj gs kk hgq hkk
          cases hkk
          obtain ⟨vs', e3, -⟩ := hi.2 q _ _ hgq hw1
          cases e3
          exact Option.isSome_iff_exists.mp hk
        · rename_i hkk
          cases hkk
        · cases hk
      · rw [u3 k hm] at hx
        exact Or.inr (g2 k o x ho hx)
  | .inr (.inl (g, n, me, ex)), hc, h0 =>
    by_cases hm : (q, 0) ∈ wr
    · refine Or.inl ⟨hm, ?_⟩
      rcases h0 with ⟨cA, f0, ee, b1, b2, b3⟩ | ⟨cA, f0, ee, b1, b2, b3⟩
      · subst ee
        match e, hw1, h1 with
        | .inl (cB, m, .inl f), hw1, ⟨u1, u2, u3, u4⟩ =>
          cases u1
          cases u2
          exact Or.inl ⟨cA, f, rfl, b1, b2, inv_i hi hw1⟩
        | .inl (cB, m, .inr (.inl f)), hw, ⟨u1, u2, u3, u4⟩ => cases u3
        | .inl (cB, m, .inr (.inr f)), hw, ⟨u1, u2, u3, u4⟩ => cases u3
      · subst ee
        match e, hw1, h1 with
        | .inl (cB, m, .inr (.inl f)), hw1, ⟨u1, u2, u3, u4⟩ =>
          cases u1
          cases u2
          exact Or.inr ⟨cA, f, rfl, b1, b2, inv_l hi hw1⟩
        | .inl (cB, m, .inl f), hw, ⟨u1, u2, u3, u4⟩ => cases u3
        | .inl (cB, m, .inr (.inr f)), hw, ⟨u1, u2, u3, u4⟩ => cases u3
    · refine Or.inr ?_
      have hee : e = e0 := by
        rcases h0 with ⟨cA, f0, ee, -⟩ | ⟨cA, f0, ee, -⟩ <;> subst ee <;> (match e, h1 with | .inl b, ⟨u1, u2, u3, u4⟩ => rw [u4 hm])
      rw [hee]
      exact h0
  | .inr (.inr (ci, els)), hc, h0 =>
    obtain ⟨cA, f, r, ee, h2⟩ := h0
    subst ee
    match e, hw1, h1 with
    | .inl (cB, m, ct), hw1, ⟨u1, u2, u3, u4⟩ =>
      by_cases hm : (q, 0) ∈ wr
      · have hk := hg _ hm
        unfold rj_wk at hk
        dsimp only at hk
        split at hk
        · rename_i hkk
          cases hkk
        · rename_i p4 hgq _
          obtain ⟨g4, n4, me4, ex4⟩ := p4
          rcases hi.2 q _ _ hgq hw1 with ⟨cC, F, e3, -⟩ | ⟨cC, F, e3, -⟩
          · cases e3
            cases u3
          · cases e3
            cases u3
        · cases hk
      · rw [u4 hm]
        exact ⟨cA, f, r, rfl, h2⟩
end HV
