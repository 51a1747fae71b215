/-! what abstract values, cells and states stand for -/
def ri_2 {α β : Type} (R : α → β → Prop) : List α → List β → Prop
  | [], [] => True
  | a :: as, b :: bs => R a b ∧ ri_2 R as bs
  | [], _ :: _ => False
  | _ :: _, [] => False
theorem r2_len {α β : Type} {R : α → β → Prop} : ∀ {as : List α} {bs : List β}, ri_2 R as bs → as.length = bs.length
  | [], [], _ => rfl
  | _ :: _, _ :: _, h => by simp only [List.length_cons]; rw [r2_len h.2]
  | [], _ :: _, h => h.elim
  | _ :: _, [], h => h.elim
theorem r2_get {α β : Type} {R : α → β → Prop} : ∀ {as : List α} {bs : List β} {i : Nat} {a : α}, ri_2 R as bs → as[i]? = some a → ∃ b, bs[i]? = some b ∧ R a b
  | [], [], i, a, _, h => by simp at h
  | x :: as, y :: bs, 0, a, h, hi => by
    rw [List.getElem?_cons_zero] at hi
    cases hi
    exact ⟨y, List.getElem?_cons_zero, h.1⟩
  | x :: as, y :: bs, i + 1, a, h, hi => by
    rw [List.getElem?_cons_succ] at hi ⊢
    exact r2_get h.2 hi
  | [], _ :: _, _, _, h, _ => h.elim
  | _ :: _, [], _, _, h, _ => h.elim
theorem r2_set {α β : Type} {R : α → β → Prop} {a : α} {b : β} : ∀ {as : List α} {bs : List β} (i : Nat), ri_2 R as bs → R a b → ri_2 R (as.set i a) (bs.set i b)
  | [], [], _, h, _ => h
  | _ :: _, _ :: _, 0, h, hr => ⟨hr, h.2⟩
  | _ :: _, _ :: _, i + 1, h, hr => ⟨h.1, r2_set i h.2 hr⟩
  | [], _ :: _, _, h, _ => h.elim
  | _ :: _, [], _, h, _ => h.elim
theorem r2_app {α β : Type} {R : α → β → Prop} {cs : List α} {ds : List β} (hr : ri_2 R cs ds) : ∀ {as : List α} {bs : List β}, ri_2 R as bs → ri_2 R (as ++ cs) (bs ++ ds)
  | [], [], _ => hr
  | _ :: _, _ :: _, h => ⟨h.1, r2_app hr h.2⟩
  | [], _ :: _, h => h.elim
  | _ :: _, [], h => h.elim
theorem r2_mono {α β : Type} {R S : α → β → Prop} (hm : ∀ a b, R a b → S a b) : ∀ {as : List α} {bs : List β}, ri_2 R as bs → ri_2 S as bs
  | [], [], _ => trivial
  | _ :: _, _ :: _, h => ⟨hm _ _ h.1, r2_mono hm h.2⟩
  | [], _ :: _, h => h.elim
  | _ :: _, [], h => h.elim
theorem r2_filter {α β : Type} {R : α → β → Prop} {f : α → Bool} {g : β → Bool} (hf : ∀ a b, R a b → f a = g b) : ∀ {as : List α} {bs : List β}, ri_2 R as bs → ri_2 R (as.filter f) (bs.filter g)
  | [], [], _ => trivial
  | a :: as, b :: bs, h => by
    have ih := r2_filter hf h.2
    rw [List.filter_cons, List.filter_cons, hf a b h.1]
    split
    · exact ⟨h.1, ih⟩
    · exact ih
  | [], _ :: _, h => h.elim
  | _ :: _, [], h => h.elim
theorem r2_take {α β : Type} {R : α → β → Prop} : ∀ (n : Nat) {as : List α} {bs : List β}, ri_2 R as bs → ri_2 R (as.take n) (bs.take n)
  | 0, _, _, _ => trivial
  | n + 1, [], [], _ => trivial
  | n + 1, _ :: _, _ :: _, h => ⟨h.1, r2_take n h.2⟩
  | n + 1, [], _ :: _, h => h.elim
  | n + 1, _ :: _, [], h => h.elim
theorem r2_drop {α β : Type} {R : α → β → Prop} : ∀ (n : Nat) {as : List α} {bs : List β}, ri_2 R as bs → ri_2 R (as.drop n) (bs.drop n)
  | 0, _, _, h => h
  | n + 1, [], [], _ => trivial
  | n + 1, _ :: _, _ :: _, h => r2_drop n h.2
  | n + 1, [], _ :: _, h => h.elim
  | n + 1, _ :: _, [], h => h.elim
theorem r2_rev {α β : Type} {R : α → β → Prop} : ∀ {as : List α} {bs : List β}, ri_2 R as bs → ri_2 R as.reverse bs.reverse
  | [], [], _ => trivial
  | a :: as, b :: bs, h => by
    rw [List.reverse_cons, List.reverse_cons]
    exact r2_app (show ri_2 R [a] [b] from ⟨h.1, trivial⟩) (r2_rev h.2)
  | [], _ :: _, h => h.elim
  | _ :: _, [], h => h.elim
def ri_g (as : List Nat) (σ : Nat → Int) (b : Nat) (v : ri_V) (x : Value) : Prop := match v with
  | .inl n => ∃ k : Int32, x = .int k ∧ ri_n σ n k.toInt
  | .inr (.inl n) => ∃ k : Int64, x = .long k ∧ ri_n σ n k.toInt
  | .inr (.inr (.inl none)) => x = .null
  | .inr (.inr (.inl (some q))) => ∃ a, as[q]? = some a ∧ x = .ref a
  | .inr (.inr (.inr _)) => x = .ref b
theorem rg_cat {as : List Nat} {σ : Nat → Int} {b : Nat} {v : ri_V} {x : Value} (h : ri_g as σ b v x) : x.category = ri_cat v := by
  match v, h with
  | .inl n, ⟨k, e, _⟩ => rw [e]; rfl
  | .inr (.inl n), ⟨k, e, _⟩ => rw [e]; rfl
  | .inr (.inr (.inl none)), e => rw [show x = .null from e]; rfl
  | .inr (.inr (.inl (some q))), ⟨a, _, e⟩ => rw [e]; rfl
  | .inr (.inr (.inr _)), e => rw [show x = .ref b from e]; rfl
theorem rg_app {as ex : List Nat} {σ : Nat → Int} {b : Nat} {v : ri_V} {x : Value} (h : ri_g as σ b v x) : ri_g (as ++ ex) σ b v x := by
  match v, h with
  | .inl n, h => exact h
  | .inr (.inl n), h => exact h
  | .inr (.inr (.inl none)), e => exact e
  | .inr (.inr (.inl (some q))), ⟨a, h, e⟩ => exact ⟨a, by rw [List.getElem?_append_left (List.getElem?_eq_some_iff.mp h).1]; exact h, e⟩
  | .inr (.inr (.inr _)), e => exact e
theorem rg_w {as : List Nat} {σ : Nat → Int} {b : Nat} : ∀ {vs : List ri_V} {xs : List Value}, ri_2 (ri_g as σ b) vs xs → (xs.map fun v => v.category).sum = ri_w vs
  | [], [], _ => rfl
  | v :: vs, x :: xs, h => by
    rw [List.map_cons, List.sum_cons, rg_cat h.1, rg_w h.2]
    rfl
  | [], _ :: _, h => h.elim
  | _ :: _, [], h => h.elim
def ri_ft (g : Nat) : FieldType := match g with
  | 0 => .int
  | 1 => .byte
  | 2 => .boolean
  | _ => .long
def ri_el1 (as : List Nat) (f : Option Nat) (el : Option Nat) : Prop := match el with
  | none => f = none
  | some q => ∃ a, as[q]? = some a ∧ f = some a
def ri_c (U : State) (as : List Nat) (σ : Nat → Int) (b : Nat) (c : ri_C) (e : va_E) : Prop := match c with
  | .inl (ci, fs) => ∃ vs, e = .inr (ci, vs) ∧ ri_2 (ri_g as σ b) fs vs
  | .inr (.inl (g, n, pre, df)) => (∃ (cA : ClassId) (f : Nat → Int32), e = .inl (cA, n, .inl f) ∧ g < 3 ∧ (ArrOfT U cA (ri_ft g) ∧ va_RA U cA (ri_ft g)) ∧ ∀ j, j < n → ri_i (ri_el pre df j) (f j).toInt) ∨
      (∃ (cA : ClassId) (f : Nat → Int64), e = .inl (cA, n, .inr (.inl f)) ∧ g = 3 ∧ (ArrOfT U cA .long ∧ va_RA U cA .long) ∧ ∀ j, j < n → ri_i (ri_el pre df j) (f j).toInt)
  | .inr (.inr (ci, els)) => ∃ (cA : ClassId) (f : Nat → Option Nat) (r : vw_C), e = .inl (cA, els.length, .inr (.inr (.inr (.inr f)))) ∧ vwCl[ci]? = some r ∧ (ArrOfT U cA (.object r.1) ∧ va_RA U cA (.object r.1)) ∧ ∀ j el, els[j]? = some el → ri_el1 as (f j) el
theorem rc_moved {u U : State} {as : List Nat} {σ : Nat → Int} {b : Nat} {c : ri_C} {e : va_E} (hvm : u.vm.Alike U.vm) (h : ri_c u as σ b c e) : ri_c U as σ b c e := by
  match c, h with
  | .inl (ci, fs), h => exact h
  | .inr (.inl (g, n, pre, df)), h =>
    rcases h with ⟨cA, f, h1, h2, ⟨h3, h4⟩, h5⟩ | ⟨cA, f, h1, h2, ⟨h3, h4⟩, h5⟩
    · exact Or.inl ⟨cA, f, h1, h2, ⟨arrOfT_moved hvm h3, h4.moved hvm⟩, h5⟩
    · exact Or.inr ⟨cA, f, h1, h2, ⟨arrOfT_moved hvm h3, h4.moved hvm⟩, h5⟩
  | .inr (.inr (ci, els)), ⟨cA, f, r, h1, h2, ⟨h3, h4⟩, h5⟩ => exact ⟨cA, f, r, h1, h2, ⟨arrOfT_moved hvm h3, h4.moved hvm⟩, h5⟩
theorem rc_app {U : State} {as ex : List Nat} {σ : Nat → Int} {b : Nat} {c : ri_C} {e : va_E} (h : ri_c U as σ b c e) : ri_c U (as ++ ex) σ b c e := by
  match c, h with
  | .inl (ci, fs), ⟨vs, h1, h2⟩ => exact ⟨vs, h1, r2_mono (fun _ _ => rg_app) h2⟩
  | .inr (.inl (g, n, pre, df)), h => exact h
  | .inr (.inr (ci, els)), ⟨cA, f, r, h1, h2, h3, h5⟩ =>
    refine ⟨cA, f, r, h1, h2, h3, fun j el hj => ?_⟩
    have := h5 j el hj
    match el, this with
    | none, h => exact h
    | some q, ⟨a, h, e⟩ => exact ⟨a, by rw [List.getElem?_append_left (List.getElem?_eq_some_iff.mp h).1]; exact h, e⟩
abbrev ri_hp (U : State) (as : List Nat) (σ : Nat → Int) (b : Nat) : List ri_C → va_W → Prop := ri_2 (fun c w => ri_c U as σ b c w.2)
abbrev ri_lo (as : List Nat) (σ : Nat → Int) (b : Nat) : List (Nat × ri_V) → List (Nat × Value) → Prop := ri_2 (fun a c => a.1 = c.1 ∧ ri_g as σ b a.2 c.2)
def ri_G (D : va_G) (s : State) (A : Nat → Prop) (H0 : Heap) (σ : Nat → Int) (b : Nat) (Z : List Nat) (nL : Nat) (st : ri_S) (ls : Array Slot) (stk : List Value) (H : Heap) (locs : List Loc) : Prop :=
  ∃ (ws : va_W) (lv : List (Nat × Value)), lv_has ls nL lv ∧ ri_lo (ws.map Prod.fst) σ b st.2.1 lv ∧ ri_2 (ri_g (ws.map Prod.fst) σ b) st.2.2.1 stk ∧ ri_hp s (ws.map Prod.fst) σ b st.2.2.2.1 ws ∧ va_P D vwCl ws H ∧ va_D A ws ∧ va_S A H0 H locs ∧ ri_Eok σ st.2.2.2.2.1 ∧ Z <+: ws.map Prod.fst
def ri_W (p : Program) (l : Launch) (e : Env) (R : Room) (s : State) (m : MethodId) (args : Array Value) (below : List Frame) (meth : Method) (c : Code) (Q : State → Prop) (D : va_G) (A : Nat → Prop) (H0 : Heap) (σ : Nat → Int) (b : Nat) (Z : List Nat) (nL : Nat) (st : ri_S) : Prop :=
  ∀ (ls : Array Slot) (stk : List Value) (H : Heap) (locs : List Loc), ri_G D s A H0 σ b Z nL st ls stk H locs → W p l e R s m args below meth c H locs st.2.2.2.2.2.1 st.2.2.2.2.2.2 Q (F0 m st.1 ls stk)
def ri_sc (s : State) (A : Nat → Prop) (H0 : Heap) (σ : Nat → Int) (b : Nat) (sc : Option Nat) : Prop := match sc with
  | none => True
  | some L => ∃ xs : Nat → Int32, va_X b L xs s H0 ∧ b < H0.size ∧ ¬ A b ∧ ∀ j, j < L → σ (j + 1) = (xs j).toInt
def ri_X (p : Program) (R : Room) (s : State) (m : MethodId) (args : Array Value) (meth : Method) (c : Code) (D : va_G) (A : Nat → Prop) (H0 : Heap) (σ : Nat → Int) (b : Nat) (Z : List Nat) (nL : Nat) (cc : ByteArray) (o : Nat) (sc : Option Nat) (ini : Bool) (rc rs : Nat) : Prop :=
  p.tables.exec = Jvm.exec ∧ c.code = cc ∧ c.maxLocals = nL ∧ s.vm.findClass (ri_own o) = some m.cls ∧ (∀ w ∈ tb, w.before args s = true) ∧ va_K D vwCl [] s ∧ (∀ q, H0.size ≤ q → A q) ∧ (ini = true → meth.name = "<init>") ∧ ri_sc s A H0 σ b sc ∧ (R.cells = rc ∧ R.slots = rs) ∧ (1 ≤ R.frames ∧ 64 ≤ R.locals)
theorem rk_2 {as : List Nat} {σ : Nat → Int} {b : Nat} : ∀ {lo : List (Nat × ri_V)} {lv : List (Nat × Value)} {i : Nat} {v : ri_V}, ri_lo as σ b lo lv → ri_key lo i = some v → ∃ x, (i, x) ∈ lv ∧ ri_g as σ b v x
  | [], _, _, _, _, h => by cases h
  | (q, a) :: lo, [], _, _, h, _ => h.elim
  | (q, a) :: lo, (r, x) :: lv, i, v, h, hk => by
    unfold ri_key at hk
    split at hk
    · rename_i hq
      have hq := Nat.eq_of_beq_eq_true hq
      cases hk
      obtain ⟨⟨h1, h2⟩, -⟩ := h
      dsimp only at h1 h2
      subst hq
      subst h1
      exact ⟨x, List.mem_cons_self, h2⟩
    · obtain ⟨y, h1, h2⟩ := rk_2 h.2 hk
      exact ⟨y, List.mem_cons_of_mem _ h1, h2⟩
theorem rk_mem {α : Type} : ∀ {l : List (Nat × α)} {k : Nat} {a : α}, ri_key l k = some a → (k, a) ∈ l
  | [], _, _, h => by cases h
  | (q, x) :: l, k, a, h => by
    unfold ri_key at h
    split at h
    · rename_i hq
      have hq := Nat.eq_of_beq_eq_true hq
      cases h
      subst hq
      exact List.mem_cons_self
    · exact List.mem_cons_of_mem _ (rk_mem h)
