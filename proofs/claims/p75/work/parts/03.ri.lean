/-! An abstract interpreter of bytecode: values are bounds (with a name where two copies are one number), cells have numbers, paths are followed one by one. Definitions. -/
abbrev ri_N : Type := Int × Int × Nat
abbrev ri_V : Type := ri_N ⊕ (ri_N ⊕ (Option Nat ⊕ Unit))
abbrev ri_E : Type := List (Int × Int)
abbrev ri_C : Type := (Nat × List ri_V) ⊕ ((Nat × Nat × List (Int × Int) × (Int × Int)) ⊕ (Nat × List (Option Nat)))
abbrev ri_S : Type := Nat × List (Nat × ri_V) × List ri_V × List ri_C × ri_E × Nat × Nat
abbrev ri_O : Type := Option ri_V × List ri_C × ri_E
abbrev ri_T : Type := List (List (Nat × Instr × Nat))
def ri_find : List (Nat × Instr × Nat) → Nat → Option (Instr × Nat)
  | [], _ => none
  | (q, i, n) :: r, pc => match Nat.beq q pc with
    | true => some (i, n)
    | false => ri_find r pc
def ri_at (ct : ri_T) (pc : Nat) : Option (Instr × Nat) := ri_find (ct.getD (pc / 32) []) pc
def ri_key {α : Type} : List (Nat × α) → Nat → Option α
  | [], _ => none
  | (q, a) :: r, k => match Nat.beq q k with
    | true => some a
    | false => ri_key r k
/-- bounds -/
def ri_iv (E : ri_E) (x : ri_N) : Int × Int := match x with
  | (lo, hi, 0) => (lo, hi)
  | (lo, hi, n + 1) => E.getD n (lo, hi)
def ri_nar (E : ri_E) (x : ri_N) (lo hi : Int) : Option ri_E :=
  match ri_iv E x with
  | (a, b) => match decide (max a lo ≤ min b hi) with
    | false => none
    | true => match x.2.2 with
      | 0 => some E
      | n + 1 => some (E.set n (max a lo, min b hi))
def ri_bind {α β : Type} (o : Option α) (f : α → Option β) : Option β := match o with
  | none => none
  | some a => f a
def ri_lt (E : ri_E) (x y : ri_N) : Option ri_E := ri_bind (ri_nar E x (ri_iv E x).1 ((ri_iv E y).2 - 1)) (fun E1 => ri_nar E1 y ((ri_iv E x).1 + 1) (ri_iv E y).2)
def ri_le (E : ri_E) (x y : ri_N) : Option ri_E := ri_bind (ri_nar E x (ri_iv E x).1 (ri_iv E y).2) (fun E1 => ri_nar E1 y (ri_iv E x).1 (ri_iv E y).2)
def ri_eq (E : ri_E) (x y : ri_N) : Option ri_E := ri_bind (ri_nar E x (ri_iv E y).1 (ri_iv E y).2) (fun E1 => ri_nar E1 y (ri_iv E x).1 (ri_iv E x).2)
def ri_neC (E : ri_E) (x : ri_N) (k : Int) : Option ri_E :=
  match decide ((ri_iv E x).1 = k) with
  | true => ri_nar E x (k + 1) (ri_iv E x).2
  | false => match decide ((ri_iv E x).2 = k) with
    | true => ri_nar E x (ri_iv E x).1 (k - 1)
    | false => some E
def ri_ne (E : ri_E) (x y : ri_N) : Option ri_E :=
  match decide ((ri_iv E y).1 = (ri_iv E y).2) with
  | true => ri_neC E x (ri_iv E y).1
  | false => match decide ((ri_iv E x).1 = (ri_iv E x).2) with
    | true => ri_neC E y (ri_iv E x).1
    | false => some E
def ri_tst (c : ClassFile.Cond) (E : ri_E) (x y : ri_N) : Option ri_E := match c with
  | .eq => ri_eq E x y
  | .ne => ri_ne E x y
  | .lt => ri_lt E x y
  | .ge => ri_le E y x
  | .gt => ri_lt E y x
  | .le => ri_le E x y
def ri_neg (c : ClassFile.Cond) : ClassFile.Cond := match c with
  | .eq => .ne
  | .ne => .eq
  | .lt => .ge
  | .ge => .lt
  | .gt => .le
  | .le => .gt
def ri_k (n : Int) : ri_N := (n, n, 0)
def ri_int (lo hi : Int) : ri_N := match decide (-2147483648 ≤ lo) && decide (hi ≤ 2147483647) with
  | true => (lo, hi, 0)
  | false => (-2147483648, 2147483647, 0)
def ri_long (lo hi : Int) : ri_N := match decide (-9223372036854775808 ≤ lo) && decide (hi ≤ 9223372036854775807) with
  | true => (lo, hi, 0)
  | false => (-9223372036854775808, 9223372036854775807, 0)
def ri_anyI : ri_N := (-2147483648, 2147483647, 0)
def ri_anyL : ri_N := (-9223372036854775808, 9223372036854775807, 0)
def ri_cat (v : ri_V) : Nat := match v with
  | .inr (.inl _) => 2
  | _ => 1
def ri_w : List ri_V → Nat
  | [] => 0
  | v :: r => ri_cat v + ri_w r
def ri_st1 (lo : List (Nat × ri_V)) (i : Nat) (v : ri_V) : List (Nat × ri_V) := (i, v) :: lo.filter (fun q => !(q.1 == i) && !(q.1 + 1 == i && ri_cat q.2 == 2))
def ri_st2 (lo : List (Nat × ri_V)) (i : Nat) (v : ri_V) : List (Nat × ri_V) := (i, v) :: lo.filter (fun q => !(q.1 == i) && (!(q.1 == i + 1) && !(q.1 + 1 == i && ri_cat q.2 == 2)))
/-- arrays of numbers: the bounds of element j; joins -/
def ri_el (pre : List (Int × Int)) (df : Int × Int) (j : Nat) : Int × Int := pre.getD j df
def ri_jn (a b : Int × Int) : Int × Int := (min a.1 b.1, max a.2 b.2)
def ri_jnL : List (Int × Int) → (Int × Int) → (Int × Int)
  | [], d => d
  | a :: r, d => ri_jn a (ri_jnL r d)
/-- the bounds of the elements from place lo to place hi -/
def ri_sel (pre : List (Int × Int)) (df : Int × Int) (lo hi : Nat) : Int × Int :=
  match decide (hi < pre.length) with
  | true => match (pre.drop lo).take (hi + 1 - lo) with
    | [] => ri_jnL pre df
    | a :: r => ri_jnL r a
  | false => ri_jnL pre df
/-- a store of a number in bounds v to some place from lo to hi -/
def ri_wk : List (Int × Int) → Nat → Nat → Nat → (Int × Int) → List (Int × Int)
  | [], _, _, _, _ => []
  | a :: r, j, lo, hi, v => (match decide (lo ≤ j) && decide (j ≤ hi) with
    | true => ri_jn a v
    | false => a) :: ri_wk r (j + 1) lo hi v
def ri_up (pre : List (Int × Int)) (df : Int × Int) (lo hi : Nat) (v : Int × Int) : List (Int × Int) × (Int × Int) :=
  match decide (lo = hi) && decide (hi < pre.length) with
  | true => (pre.set lo v, df)
  | false => (ri_wk pre 0 lo hi v, match decide (hi < pre.length) with
    | true => df
    | false => ri_jn df v)
def ri_in (x : Int × Int) (n : Nat) : Bool := decide (0 ≤ x.1) && decide (x.2 < (n : Int))
def ri_sub (x y : Int × Int) : Bool := decide (y.1 ≤ x.1) && decide (x.2 ≤ y.2)
def ri_opt {α : Type} (o : Option α) : List α := match o with
  | none => []
  | some a => [a]
def ri_tgt (pc : Nat) (off : Int) : Nat := ((pc : Int) + off).toNat
/-- the default value of a field -/
def ri_dfl (t : FieldType) : ri_V := match t with
  | .long => .inr (.inl (0, 0, 0))
  | .object _ => .inr (.inr (.inl none))
  | .array _ => .inr (.inr (.inl none))
  | _ => .inl (0, 0, 0)
def ri_tag (t : ArrayType) : Option Nat := match t with
  | .int => some 0
  | .byte => some 1
  | .boolean => some 2
  | .long => some 3
  | _ => none
def ri_fits (t : FieldType) (E : ri_E) (v : ri_V) : Bool := match t, v with
  | .int, .inl _ => true
  | .boolean, .inl x => ri_sub (ri_iv E x) (0, 1)
  | .long, .inr (.inl _) => true
  | .object _, .inr (.inr (.inl _)) => true
  | .array _, .inr (.inr (.inl _)) => true
  | _, _ => false
