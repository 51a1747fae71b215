/-! v2: values, cells, states, and what they stand for -/
abbrev rj_V : Type := rj_F ⊕ (rj_F ⊕ (Nat ⊕ (Nat ⊕ Unit)))
abbrev rj_X : Type := (rj_F × rj_F) ⊕ rj_F
abbrev rj_A : Type := Nat × Nat × List (rj_F × rj_F) × List rj_X
abbrev rj_H : Type := (Nat × List (Option rj_V)) ⊕ (rj_A ⊕ (Nat × List Nat))
abbrev rj_Wr : Type := List (Nat × Nat)
abbrev rj_S : Type := Nat × List (Nat × rj_V) × List rj_V × List rj_H × rj_K × rj_Wr
/-- the addresses of the cells, of the script, of the constants -/
abbrev rj_Z : Type := List Nat × Nat × (Nat → Nat)
def gi_h0 : List rj_H := [.inl (8, [some (.inr (.inr (.inl 1))), some (.inr (.inr (.inl 3))), some (.inr (.inr (.inl 14))), some (.inr (.inr (.inl 25))), some (.inr (.inr (.inl 26))), some (.inr (.inr (.inl 60))), some (.inr (.inr (.inl 69))), some (.inr (.inr (.inl 81))), some (.inr (.inr (.inl 88))), some (.inr (.inr (.inl 95))), some (.inr (.inr (.inl 99))), some (.inr (.inr (.inl 104))), none, none, none]), .inl (2, [some (.inr (.inr (.inl 2))), none, none, none, none, none, none, none]), .inr (.inl (1, 700, [], [])), .inl (3, [none, none, none, none, none, none, none, none, some (.inr (.inr (.inl 4))), some (.inr (.inr (.inl 5))), some (.inr (.inr (.inl 6))), some (.inr (.inr (.inl 7))), some (.inr (.inr (.inl 8))), some (.inr (.inr (.inl 9))), some (.inr (.inr (.inl 10))), some (.inr (.inr (.inl 11))), some (.inr (.inr (.inl 12))), some (.inr (.inr (.inl 13)))]), .inr (.inl (0, 3, [], [])), .inr (.inl (0, 3, [], [])), .inr (.inl (0, 3, [], [])), .inr (.inl (0, 3, [], [])), .inr (.inl (0, 6, [], [])), .inr (.inl (0, 6, [], [])), .inr (.inl (0, 6, [], [])), .inr (.inl (0, 40, [], [])), .inr (.inl (0, 40, [], [])), .inr (.inl (0, 40, [], [])), .inl (3, [none, none, none, none, none, none, none, none, some (.inr (.inr (.inl 15))), some (.inr (.inr (.inl 16))), some (.inr (.inr (.inl 17))), some (.inr (.inr (.inl 18))), some (.inr (.inr (.inl 19))), some (.inr (.inr (.inl 20))), some (.inr (.inr (.inl 21))), some (.inr (.inr (.inl 22))), some (.inr (.inr (.inl 23))), some (.inr (.inr (.inl 24)))]), .inr (.inl (0, 3, [], [])), .inr (.inl (0, 3, [], [])), .inr (.inl (0, 3, [], [])), .inr (.inl (0, 3, [], []))]
def gi_h1 : List rj_H := [.inr (.inl (0, 6, [], [])), .inr (.inl (0, 6, [], [])), .inr (.inl (0, 6, [], [])), .inr (.inl (0, 40, [], [])), .inr (.inl (0, 40, [], [])), .inr (.inl (0, 40, [], [])), .inr (.inr (3, [27, 38, 49])), .inr (.inl (2, 3, [], [])), .inl (3, [none, none, none, none, none, none, none, none, some (.inr (.inr (.inl 28))), some (.inr (.inr (.inl 29))), some (.inr (.inr (.inl 30))), some (.inr (.inr (.inl 31))), some (.inr (.inr (.inl 32))), some (.inr (.inr (.inl 33))), some (.inr (.inr (.inl 34))), some (.inr (.inr (.inl 35))), some (.inr (.inr (.inl 36))), some (.inr (.inr (.inl 37)))]), .inr (.inl (0, 3, [], [])), .inr (.inl (0, 3, [], [])), .inr (.inl (0, 3, [], [])), .inr (.inl (0, 3, [], [])), .inr (.inl (0, 6, [], [])), .inr (.inl (0, 6, [], [])), .inr (.inl (0, 6, [], [])), .inr (.inl (0, 40, [], [])), .inr (.inl (0, 40, [], [])), .inr (.inl (0, 40, [], []))]
def gi_h2 : List rj_H := [.inl (3, [none, none, none, none, none, none, none, none, some (.inr (.inr (.inl 39))), some (.inr (.inr (.inl 40))), some (.inr (.inr (.inl 41))), some (.inr (.inr (.inl 42))), some (.inr (.inr (.inl 43))), some (.inr (.inr (.inl 44))), some (.inr (.inr (.inl 45))), some (.inr (.inr (.inl 46))), some (.inr (.inr (.inl 47))), some (.inr (.inr (.inl 48)))]), .inr (.inl (0, 3, [], [])), .inr (.inl (0, 3, [], [])), .inr (.inl (0, 3, [], [])), .inr (.inl (0, 3, [], [])), .inr (.inl (0, 6, [], [])), .inr (.inl (0, 6, [], [])), .inr (.inl (0, 6, [], [])), .inr (.inl (0, 40, [], [])), .inr (.inl (0, 40, [], [])), .inr (.inl (0, 40, [], [])), .inl (3, [none, none, none, none, none, none, none, none, some (.inr (.inr (.inl 50))), some (.inr (.inr (.inl 51))), some (.inr (.inr (.inl 52))), some (.inr (.inr (.inl 53))), some (.inr (.inr (.inl 54))), some (.inr (.inr (.inl 55))), some (.inr (.inr (.inl 56))), some (.inr (.inr (.inl 57))), some (.inr (.inr (.inl 58))), some (.inr (.inr (.inl 59)))]), .inr (.inl (0, 3, [], [])), .inr (.inl (0, 3, [], [])), .inr (.inl (0, 3, [], [])), .inr (.inl (0, 3, [], [])), .inr (.inl (0, 6, [], [])), .inr (.inl (0, 6, [], [])), .inr (.inl (0, 6, [], []))]
def gi_h3 : List rj_H := [.inr (.inl (0, 40, [], [])), .inr (.inl (0, 40, [], [])), .inr (.inl (0, 40, [], [])), .inr (.inr (6, [61, 63, 65, 67])), .inl (6, [some (.inr (.inr (.inl 62))), none, none]), .inr (.inl (3, 60, [], [])), .inl (6, [some (.inr (.inr (.inl 64))), none, none]), .inr (.inl (3, 60, [], [])), .inl (6, [some (.inr (.inr (.inl 66))), none, none]), .inr (.inl (3, 60, [], [])), .inl (6, [some (.inr (.inr (.inl 68))), none, none]), .inr (.inl (3, 60, [], [])), .inl (0, [none, none, none, some (.inr (.inr (.inl 70))), some (.inr (.inr (.inl 71))), some (.inr (.inr (.inl 72))), none, none, none, some (.inr (.inr (.inl 73))), some (.inr (.inr (.inl 74))), some (.inr (.inr (.inl 75))), some (.inr (.inr (.inl 76))), some (.inr (.inr (.inl 77))), some (.inr (.inr (.inl 78))), some (.inr (.inr (.inl 79))), some (.inr (.inr (.inl 80)))]), .inr (.inl (0, 6, [], [])), .inr (.inl (0, 3, [], [])), .inr (.inl (0, 3, [], [])), .inr (.inl (0, 3, [], [])), .inr (.inl (0, 3, [], [])), .inr (.inl (0, 3, [], []))]
def gi_h4 : List rj_H := [.inr (.inl (0, 12, [], [])), .inr (.inl (0, 12, [], [])), .inr (.inl (0, 12, [], [])), .inr (.inl (0, 12, [], [])), .inr (.inl (0, 12, [], [])), .inl (7, [some (.inr (.inr (.inl 82))), some (.inr (.inr (.inl 83))), some (.inr (.inr (.inl 84))), some (.inr (.inr (.inl 85))), some (.inr (.inr (.inl 86))), some (.inr (.inr (.inl 87)))]), .inr (.inl (0, 25, [], [])), .inr (.inl (0, 25, [], [])), .inr (.inl (0, 25, [], [])), .inr (.inl (0, 75, [], [])), .inr (.inl (0, 75, [], [])), .inr (.inl (0, 150, [], [])), .inl (7, [some (.inr (.inr (.inl 89))), some (.inr (.inr (.inl 90))), some (.inr (.inr (.inl 91))), some (.inr (.inr (.inl 92))), some (.inr (.inr (.inl 93))), some (.inr (.inr (.inl 94)))]), .inr (.inl (0, 25, [], [])), .inr (.inl (0, 25, [], [])), .inr (.inl (0, 25, [], [])), .inr (.inl (0, 75, [], [])), .inr (.inl (0, 75, [], [])), .inr (.inl (0, 150, [], []))]
def gi_h5 : List rj_H := [.inl (5, [some (.inr (.inr (.inl 96))), some (.inr (.inr (.inl 97))), some (.inr (.inr (.inl 98)))]), .inr (.inl (0, 64, [], [])), .inr (.inl (0, 64, [], [])), .inr (.inl (0, 192, [], [])), .inl (4, [none, none, some (.inr (.inr (.inl 100))), some (.inr (.inr (.inl 101))), some (.inr (.inr (.inl 102))), some (.inr (.inr (.inl 103)))]), .inr (.inl (0, 6, [], [])), .inr (.inl (0, 6, [], [])), .inr (.inl (0, 3, [], [])), .inr (.inl (3, 3, [], [])), .inl (1, [none, none, none, none, none, none, some (.inr (.inr (.inl 105)))]), .inr (.inl (0, 900, [], [])), .inl (9, [none, some (.inr (.inr (.inl 107))), some (.inr (.inr (.inl 108))), some (.inr (.inr (.inl 109))), some (.inr (.inr (.inl 110))), some (.inr (.inr (.inl 111))), none, none, none, none, none, none, none, none, none, none, some (.inr (.inr (.inl 112))), some (.inr (.inr (.inl 113))), some (.inr (.inr (.inl 114))), some (.inr (.inr (.inl 115))), some (.inr (.inr (.inl 116))), some (.inr (.inr (.inl 117))), none, none, some (.inr (.inr (.inl 118))), some (.inr (.inr (.inl 119))), some (.inr (.inr (.inl 120))), some (.inr (.inr (.inl 121))), some (.inr (.inr (.inl 122))), some (.inr (.inr (.inl 123))), some (.inr (.inr (.inl 124))), some (.inr (.inr (.inl 125))), some (.inr (.inr (.inl 126))), some (.inr (.inr (.inl 127))), some (.inr (.inr (.inl 128))), some (.inr (.inr (.inl 129))), none, none, none, some (.inr (.inr (.inl 130))), some (.inr (.inr (.inl 131))), none, none, none, none, none, none, none, none, some (.inr (.inr (.inl 132)))]), .inr (.inl (0, 4, [], [])), .inr (.inl (0, 4, [], [])), .inr (.inl (3, 240, [], [])), .inr (.inl (3, 60, [], [])), .inr (.inl (1, 700, [], [])), .inr (.inl (0, 5, [], [])), .inr (.inl (0, 35, [], []))]
def gi_h6 : List rj_H := [.inr (.inl (0, 45, [], [])), .inr (.inl (0, 90, [], [])), .inr (.inl (0, 600, [], [])), .inr (.inl (2, 3, [], [])), .inr (.inl (0, 6, [], [])), .inr (.inl (0, 6, [], [])), .inr (.inl (0, 6, [], [])), .inr (.inl (0, 3, [], [])), .inr (.inl (0, 75, [], [])), .inr (.inl (0, 75, [], [])), .inr (.inl (2, 75, [], [])), .inr (.inl (0, 150, [], [])), .inr (.inl (0, 150, [], [])), .inr (.inl (0, 6, [], [])), .inr (.inl (0, 6, [], [])), .inr (.inl (0, 3, [], [])), .inr (.inl (0, 6, [], [])), .inr (.inl (0, 6, [], [])), .inr (.inl (0, 900, [], []))]
def gi_h : List rj_H := gi_h0 ++ (gi_h1 ++ (gi_h2 ++ (gi_h3 ++ (gi_h4 ++ (gi_h5 ++ (gi_h6))))))
def rj_n (N : Nat) (σ : Nat → Int) (f : rj_F) (z : Int) : Prop := rj_wf N f ∧ rj_ev σ f = z
theorem wf_le {N M : Nat} {f : rj_F} (h : N ≤ M) (hf : rj_wf N f) : rj_wf M f := fun q hq => Nat.lt_of_lt_of_le (hf q hq) h
theorem rn_ag {N M : Nat} {σ τ : Nat → Int} {f : rj_F} {z : Int} (hNM : N ≤ M) (ha : rj_ag N σ τ) (h : rj_n N σ f z) : rj_n M τ f z := ⟨wf_le hNM h.1, by rw [ev_ag ha h.1]; exact h.2⟩
def rj_cat (v : rj_V) : Nat := match v with
  | .inr (.inl _) => 2
  | _ => 1
def rj_g (z : rj_Z) (N : Nat) (σ : Nat → Int) (v : rj_V) (x : Value) : Prop := match v with
  | .inl f => ∃ k : Int32, x = .int k ∧ rj_n N σ f k.toInt
  | .inr (.inl f) => ∃ k : Int64, x = .long k ∧ rj_n N σ f k.toInt
  | .inr (.inr (.inl q)) => ∃ a, z.1[q]? = some a ∧ x = .ref a
  | .inr (.inr (.inr (.inl i))) => x = .ref (z.2.2 i)
  | .inr (.inr (.inr (.inr _))) => x = .ref z.2.1
theorem jg_ag {z : rj_Z} {N M : Nat} {σ τ : Nat → Int} {v : rj_V} {x : Value} (hNM : N ≤ M) (ha : rj_ag N σ τ) (h : rj_g z N σ v x) : rj_g z M τ v x := by
  match v, h with
  | .inl f, ⟨k, e, h⟩ => exact ⟨k, e, rn_ag hNM ha h⟩
  | .inr (.inl f), ⟨k, e, h⟩ => exact ⟨k, e, rn_ag hNM ha h⟩
  | .inr (.inr (.inl q)), h => exact h
  | .inr (.inr (.inr (.inl i))), h => exact h
  | .inr (.inr (.inr (.inr _))), h => exact h
theorem jg_cat {z : rj_Z} {N : Nat} {σ : Nat → Int} {v : rj_V} {x : Value} (h : rj_g z N σ v x) : x.category = rj_cat v := by
  match v, h with
  | .inl f, ⟨k, e, _⟩ => rw [e]; rfl
  | .inr (.inl f), ⟨k, e, _⟩ => rw [e]; rfl
  | .inr (.inr (.inl q)), ⟨a, _, e⟩ => rw [e]; rfl
  | .inr (.inr (.inr (.inl i))), e => rw [show x = .ref (z.2.2 i) from e]; rfl
  | .inr (.inr (.inr (.inr _))), e => rw [show x = .ref z.2.1 from e]; rfl
def rj_w : List rj_V → Nat
  | [] => 0
  | v :: r => rj_cat v + rj_w r
theorem jg_w {z : rj_Z} {N : Nat} {σ : Nat → Int} : ∀ {vs : List rj_V} {xs : List Value}, ri_2 (rj_g z N σ) vs xs → (xs.map fun v => v.category).sum = rj_w vs
  | [], [], _ => rfl
  | v :: vs, x :: xs, h => by
    rw [List.map_cons, List.sum_cons, jg_cat h.1, jg_w h.2]
    rfl
  | [], _ :: _, h => h.elim
  | _ :: _, [], h => h.elim
/-- a field of which nothing is known but its range -/
def rj_u (ci k : Nat) (x : Value) : Prop := match gi_f ci k with
  | none => False
  | some (false, lo, hi, _) => ∃ z : Int32, x = .int z ∧ lo ≤ z.toInt ∧ z.toInt ≤ hi
  | some (true, lo, hi, _) => ∃ z : Int64, x = .long z ∧ lo ≤ z.toInt ∧ z.toInt ≤ hi
def rj_fl (z : rj_Z) (N : Nat) (σ : Nat → Int) (ci k : Nat) (o : Option rj_V) (x : Value) : Prop := match o with
  | none => rj_u ci k x
  | some v => rj_g z N σ v x
def rj_fs (z : rj_Z) (N : Nat) (σ : Nat → Int) (ci : Nat) (fs : List (Option rj_V)) (vs : List Value) : Prop := fs.length = vs.length ∧ ∀ (k : Nat) (o : Option rj_V) (x : Value), fs[k]? = some o → vs[k]? = some x → rj_fl z N σ ci k o x
/-- the range of an element by its place -/
def rj_er (q j : Nat) : Int × Int := (gi_a q).2.getD (j % (gi_a q).1) (0, 0)
def rj_in (r : Int × Int) (z : Int) : Prop := r.1 ≤ z ∧ z ≤ r.2
def rj_ex (N : Nat) (σ : Nat → Int) (f : Nat → Int) (x : rj_X) : Prop := match x with
  | .inl (ba, li) => rj_wf N ba ∧ rj_wf N li ∧ 0 ≤ rj_ev σ ba ∧ ∀ j : Nat, 3 * (j : Int) < rj_ev σ li → rj_in (0, 2) (f ((rj_ev σ ba).toNat + 3 * j)) ∧ rj_in (0, 24) (f ((rj_ev σ ba).toNat + 3 * j + 1)) ∧ rj_in (0, 11) (f ((rj_ev σ ba).toNat + 3 * j + 2))
  | .inr e => rj_wf N e
/-- the triples of act, but those that are open -/
def rj_tr (σ : Nat → Int) (n : Nat) (f : Nat → Int) (ex : List rj_X) : Prop := ∀ j : Nat, 3 * j + 2 < n → (∃ e, Sum.inr e ∈ ex ∧ rj_ev σ e = 3 * (j : Int)) ∨ (f (3 * j) ≤ 1 → f (3 * j + 2) ≤ 2)
def rj_me (N : Nat) (σ : Nat → Int) (n : Nat) (f : Nat → Int) (p : rj_F × rj_F) : Prop := rj_wf N p.1 ∧ rj_wf N p.2 ∧ 0 ≤ rj_ev σ p.1 ∧ rj_ev σ p.1 < (n : Int) ∧ f (rj_ev σ p.1).toNat = rj_ev σ p.2
def rj_ar (N : Nat) (σ : Nat → Int) (q n : Nat) (me : List (rj_F × rj_F)) (ex : List rj_X) (f : Nat → Int) : Prop :=
  (∀ j, j < n → rj_in (rj_er q j) (f j)) ∧ (∀ p ∈ me, rj_me N σ n f p) ∧ (∀ x ∈ ex, rj_ex N σ f x) ∧ (q = 116 → rj_tr σ n f ex)
theorem ar_ag {N M : Nat} {σ τ : Nat → Int} {q n : Nat} {me : List (rj_F × rj_F)} {ex : List rj_X} {f : Nat → Int} (hNM : N ≤ M) (ha : rj_ag N σ τ) (h : rj_ar N σ q n me ex f) : rj_ar M τ q n me ex f := by
  obtain ⟨h1, h2, h3, h4⟩ := h
  refine ⟨h1, fun p hp => ?_, fun x hx => ?_, fun hq j hj => ?_⟩
  · obtain ⟨a1, a2, a3, a4, a5⟩ := h2 p hp
    refine ⟨wf_le hNM a1, wf_le hNM a2, ?_, ?_, ?_⟩
    · rw [ev_ag ha a1]; exact a3
    · rw [ev_ag ha a1]; exact a4
    · rw [ev_ag ha a1, ev_ag ha a2]; exact a5
  · have hx := h3 x hx
    match x, hx with
    | .inl (ba, li), ⟨b1, b2, b3⟩ =>
      refine ⟨wf_le hNM b1, wf_le hNM b2, ?_⟩
      rw [ev_ag ha b1, ev_ag ha b2]
      exact b3
    | .inr e, he => exact wf_le hNM he
  · rcases h4 hq j hj with ⟨e, he, h⟩ | h
    · refine Or.inl ⟨e, he, ?_⟩
      rw [ev_ag ha (h3 _ he)]
      exact h
    · exact Or.inr h
def rj_c (U : State) (z : rj_Z) (N : Nat) (σ : Nat → Int) (q : Nat) (c : rj_H) (e : va_E) : Prop := match c with
  | .inl (ci, fs) => ∃ vs, e = .inr (ci, vs) ∧ rj_fs z N σ ci fs vs
  | .inr (.inl (g, n, me, ex)) => (∃ (cA : ClassId) (f : Nat → Int32), e = .inl (cA, n, .inl f) ∧ g < 3 ∧ (ArrOfT U cA (ri_ft g) ∧ va_RA U cA (ri_ft g)) ∧ rj_ar N σ q n me ex (fun j => (f j).toInt)) ∨
      (∃ (cA : ClassId) (f : Nat → Int64), e = .inl (cA, n, .inr (.inl f)) ∧ g = 3 ∧ (ArrOfT U cA .long ∧ va_RA U cA .long) ∧ rj_ar N σ q n me ex (fun j => (f j).toInt))
  | .inr (.inr (ci, els)) => ∃ (cA : ClassId) (f : Nat → Option Nat) (r : vw_C), e = .inl (cA, els.length, .inr (.inr (.inr (.inr f)))) ∧ vwCl[ci]? = some r ∧ (ArrOfT U cA (.object r.1) ∧ va_RA U cA (.object r.1)) ∧ ∀ j el, els[j]? = some el → ∃ a, z.1[el]? = some a ∧ f j = some a
theorem jc_moved {u U : State} {z : rj_Z} {N : Nat} {σ : Nat → Int} {q : Nat} {c : rj_H} {e : va_E} (hvm : u.vm.Alike U.vm) (h : rj_c u z N σ q c e) : rj_c U z N σ q c e := by
  match c, h with
  | .inl (ci, fs), h => exact h
  | .inr (.inl (g, n, me, ex)), h =>
    rcases h with ⟨cA, f, h1, h2, ⟨h3, h4⟩, h5⟩ | ⟨cA, f, h1, h2, ⟨h3, h4⟩, h5⟩
    · exact Or.inl ⟨cA, f, h1, h2, ⟨arrOfT_moved hvm h3, h4.moved hvm⟩, h5⟩
    · exact Or.inr ⟨cA, f, h1, h2, ⟨arrOfT_moved hvm h3, h4.moved hvm⟩, h5⟩
  | .inr (.inr (ci, els)), ⟨cA, f, r, h1, h2, ⟨h3, h4⟩, h5⟩ => exact ⟨cA, f, r, h1, h2, ⟨arrOfT_moved hvm h3, h4.moved hvm⟩, h5⟩
theorem fl_ag {z : rj_Z} {N M : Nat} {σ τ : Nat → Int} {ci k : Nat} {o : Option rj_V} {x : Value} (hNM : N ≤ M) (ha : rj_ag N σ τ) (h : rj_fl z N σ ci k o x) : rj_fl z M τ ci k o x := by
  match o, h with
  | none, h => exact h
  | some v, h => exact jg_ag hNM ha h
theorem jc_ag {U : State} {z : rj_Z} {N M : Nat} {σ τ : Nat → Int} {q : Nat} {c : rj_H} {e : va_E} (hNM : N ≤ M) (ha : rj_ag N σ τ) (h : rj_c U z N σ q c e) : rj_c U z M τ q c e := by
  match c, h with
  | .inl (ci, fs), ⟨vs, h1, h2, h3⟩ => exact ⟨vs, h1, h2, fun k o x ho hx => fl_ag hNM ha (h3 k o x ho hx)⟩
  | .inr (.inl (g, n, me, ex)), h =>
    rcases h with ⟨cA, f, h1, h2, h3, h5⟩ | ⟨cA, f, h1, h2, h3, h5⟩
    · exact Or.inl ⟨cA, f, h1, h2, h3, ar_ag hNM ha h5⟩
    · exact Or.inr ⟨cA, f, h1, h2, h3, ar_ag hNM ha h5⟩
  | .inr (.inr (ci, els)), h => exact h
/-- the heap: cell by cell -/
def rj_hp (U : State) (z : rj_Z) (N : Nat) (σ : Nat → Int) (hp : List rj_H) (w : va_W) : Prop := hp.length = w.length ∧ ∀ (q : Nat) (c : rj_H) (p : Nat × va_E), hp[q]? = some c → w[q]? = some p → rj_c U z N σ q c p.2
theorem hp_ag {U : State} {z : rj_Z} {N M : Nat} {σ τ : Nat → Int} {hp : List rj_H} {w : va_W} (hNM : N ≤ M) (ha : rj_ag N σ τ) (h : rj_hp U z N σ hp w) : rj_hp U z M τ hp w := ⟨h.1, fun q c p hc hp => jc_ag hNM ha (h.2 q c p hc hp)⟩
theorem hp_moved {u U : State} {z : rj_Z} {N : Nat} {σ : Nat → Int} {hp : List rj_H} {w : va_W} (hvm : u.vm.Alike U.vm) (h : rj_hp u z N σ hp w) : rj_hp U z N σ hp w := ⟨h.1, fun q c p hc hp => jc_moved hvm (h.2 q c p hc hp)⟩
theorem hp_at {U : State} {z : rj_Z} {N : Nat} {σ : Nat → Int} {hp : List rj_H} {w : va_W} {q a : Nat} {c : rj_H} (h : rj_hp U z N σ hp w) (hz : w.map Prod.fst = z.1) (ha : z.1[q]? = some a) (hq : hp[q]? = some c) : ∃ e, w[q]? = some (a, e) ∧ rj_c U z N σ q c e := by
  rw [← hz, List.getElem?_map] at ha
  cases hw : w[q]? with
  | none => rw [hw] at ha; cases ha
  | some p =>
    rw [hw] at ha
    cases ha
    exact ⟨p.2, rfl, h.2 q c p hq hw⟩
theorem hp_set {U : State} {z : rj_Z} {N : Nat} {σ : Nat → Int} {hp : List rj_H} {w : va_W} {q a : Nat} {c : rj_H} {e : va_E} (h : rj_hp U z N σ hp w) (hc : rj_c U z N σ q c e) : rj_hp U z N σ (hp.set q c) (w.set q (a, e)) := by
  refine ⟨by rw [List.length_set, List.length_set]; exact h.1, fun j c1 p h1 h2 => ?_⟩
  by_cases hj : q = j
  · subst hj
    rw [List.getElem?_set] at h1 h2
    simp only [if_true] at h1 h2
    split at h1
    · cases h1
      split at h2
      · cases h2
        exact hc
      · cases h2
    · cases h1
  · rw [List.getElem?_set_ne hj] at h1 h2
    exact h.2 j c1 p h1 h2
/-- what is known of one cell anew -/
theorem hp_know {U : State} {z : rj_Z} {N : Nat} {σ : Nat → Int} {hp : List rj_H} {w : va_W} {q a : Nat} {c : rj_H} {e : va_E} (h : rj_hp U z N σ hp w) (hw : w[q]? = some (a, e)) (hc : rj_c U z N σ q c e) : rj_hp U z N σ (hp.set q c) w := by
  have := hp_set (a := a) h hc
  rw [lset_same hw] at this
  exact this
/-! what has not been written is as it was -/
def rj_akd (a : (Nat → Int32) ⊕ ((Nat → Int64) ⊕ ((Nat → UInt32) ⊕ ((Nat → UInt64) ⊕ (Nat → Option Nat))))) : Nat := match a with
  | .inl _ => 0
  | .inr (.inl _) => 1
  | .inr (.inr _) => 2
def rj_un1 (q : Nat) (wr : rj_Wr) (e0 e : va_E) : Prop := match e0, e with
  | .inr (c0, v0), .inr (c, v) => c = c0 ∧ v.length = v0.length ∧ ∀ k, (q, k + 1) ∉ wr → v[k]? = v0[k]?
  | .inl a0, .inl a => a.1 = a0.1 ∧ a.2.1 = a0.2.1 ∧ rj_akd a.2.2 = rj_akd a0.2.2 ∧ ((q, 0) ∉ wr → a = a0)
  | _, _ => False
def rj_un (w0 w : va_W) (wr : rj_Wr) : Prop := w.length = w0.length ∧ ∀ (q : Nat) (p0 p : Nat × va_E), w0[q]? = some p0 → w[q]? = some p → rj_un1 q wr p0.2 p.2
theorem un1_refl (q : Nat) (wr : rj_Wr) (e : va_E) : rj_un1 q wr e e := by
  match e with
  | .inr (c, v) => exact ⟨rfl, rfl, fun _ _ => rfl⟩
  | .inl a => exact ⟨rfl, rfl, rfl, fun _ => rfl⟩
theorem un_refl (w : va_W) (wr : rj_Wr) : rj_un w w wr := ⟨rfl, fun q p0 p h0 h => by rw [h0] at h; cases h; exact un1_refl q wr p0.2⟩
theorem un1_trans {q : Nat} {w1 w2 wr : rj_Wr} {e0 e1 e2 : va_E} (h1 : rj_un1 q w1 e0 e1) (h2 : rj_un1 q w2 e1 e2) (s1 : ∀ x ∈ w1, x ∈ wr) (s2 : ∀ x ∈ w2, x ∈ wr) : rj_un1 q wr e0 e2 := by
  match e0, e1, e2, h1, h2 with
  | .inr (c0, v0), .inr (c1, v1), .inr (c2, v2), ⟨a1, a2, a3⟩, ⟨b1, b2, b3⟩ => exact ⟨b1.trans a1, b2.trans a2, fun k hk => (b3 k (fun h => hk (s2 _ h))).trans (a3 k (fun h => hk (s1 _ h)))⟩
  | .inl a0, .inl a1, .inl a2, ⟨c1, c2, c3, c4⟩, ⟨d1, d2, d3, d4⟩ => exact ⟨d1.trans c1, d2.trans c2, d3.trans c3, fun hk => (d4 (fun h => hk (s2 _ h))).trans (c4 (fun h => hk (s1 _ h)))⟩
theorem un_trans {wr1 wr2 wr : rj_Wr} {w0 w1 w2 : va_W} (h1 : rj_un w0 w1 wr1) (h2 : rj_un w1 w2 wr2) (s1 : ∀ x ∈ wr1, x ∈ wr) (s2 : ∀ x ∈ wr2, x ∈ wr) : rj_un w0 w2 wr := by
  refine ⟨h2.1.trans h1.1, fun q p0 p h0 h => ?_⟩
  have hq : q < w1.length := by rw [h1.1]; exact (List.getElem?_eq_some_iff.mp h0).1
  have hm := List.getElem?_eq_getElem hq
  exact un1_trans (h1.2 q p0 _ h0 hm) (h2.2 q _ p hm h) s1 s2
theorem un_set {w : va_W} {wr : rj_Wr} {q a : Nat} {e e1 : va_E} (hw : w[q]? = some (a, e)) (h : rj_un1 q wr e e1) : rj_un w (w.set q (a, e1)) wr := by
  refine ⟨List.length_set, fun j p0 p h0 hp => ?_⟩
  by_cases hj : q = j
  · subst hj
    rw [List.getElem?_set] at hp
    simp only [if_true] at hp
    split at hp
    · cases hp
      rw [hw] at h0
      cases h0
      exact h
    · cases hp
  · rw [List.getElem?_set_ne hj] at hp
    rw [h0] at hp
    cases hp
    exact un1_refl j wr p0.2
/-- all is within its range -/
def rj_inv (U : State) (z : rj_Z) (w : va_W) : Prop := rj_hp U z 0 (fun _ => 0) gi_h w
/-- the class of what is told of a field is that of the field -/
def rj_fk (lg : Bool) (v : rj_V) : Bool := match lg, v with
  | false, .inl _ => true
  | true, .inr (.inl _) => true
  | _, _ => false
