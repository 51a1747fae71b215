/-! a run in stages: it stops at given places -/
def ri_runS (stop : Nat → Bool) (ct : ri_T) (step : Instr → Nat → ri_S → Option (List ri_S)) : Nat → ri_S → Option (List ri_S)
  | 0, _ => none
  | f + 1, st => match stop st.1 with
    | true => some [st]
    | false => match ri_at ct st.1 with
      | none => none
      | some (i, len) => match step i len st with
        | none => none
        | some [s1] => ri_runS stop ct step f s1
        | some sts => ri_all (ri_runS stop ct step f) sts
section RS12
variable {p : Program} {l : Launch} {e : Env} {R : Room} {s : State} {m : MethodId} {args : Array Value} {below : List Frame} {meth : Method} {c : Code} {Q : State → Prop} {D : va_G} {A : Nat → Prop} {H0 : Heap} {σ : Nat → Int} {b nL : Nat} {Z : List Nat} {cc : ByteArray} {o : Nat} {sc : Option Nat} {ini : Bool} {rc rs : Nat} {call : Nat → List ri_V → List ri_C → ri_E → Option (List ri_O)} {d : Nat}
theorem so_runS {stop : Nat → Bool} {ct : ri_T} (X : ri_X p R s m args meth c D A H0 σ b Z nL cc o sc ini rc rs) (hd1 : d + 1 ≤ R.frames) (hd2 : 64 * (d + 1) ≤ R.locals) (hg : ri_good l d call) (hcd : ri_cdok cc ct) : ∀ (f : Nat) (st : ri_S) (sts : List ri_S), ri_runS stop ct (ri_step o sc ini nL rc rs call) f st = some sts → (∀ t ∈ sts, ri_W p l e R s m args below meth c Q D A H0 σ b Z nL t) → ri_W p l e R s m args below meth c Q D A H0 σ b Z nL st := by
  intro f
  induction f with
  | zero =>
    intro st sts h
    cases h
  | succ f ih =>
    intro st sts h hs
    unfold ri_runS at h
    split at h
    · cases h
      exact hs st List.mem_cons_self
    · split at h
      · cases h
      · rename_i i len hat
        split at h
        · cases h
        · rename_i s1 hst
          exact so_step X hd1 hd2 hg (at_dec hcd hat) hst (fun t ht => by
            rw [List.mem_singleton.mp ht]
            exact ih s1 sts h hs)
        · rename_i sts1 _ hst
          exact so_step X hd1 hd2 hg (at_dec hcd hat) hst (fun t ht => by
            obtain ⟨a, h1, h2⟩ := all_sub h t ht
            exact ih t a h1 (fun u hu => hs u (h2 u hu)))
end RS12
