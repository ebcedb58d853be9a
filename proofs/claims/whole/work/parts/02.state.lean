/-! the state: one pool of cells, an address list and what each holds; a method's contract says how the pool changes -/
abbrev pW_d (D : va_G) (ty : List (ClassId × FieldType)) (A : Nat → Prop) (L : List Nat) (f : Nat → va_E) (t : State) : Prop := va_P D vwCl (va_pl L f) t.heap ∧ va_K D vwCl ty t ∧ va_D A (va_pl L f)
abbrev pR_0 : Room := { frames := 0, cells := 0, slots := 0, locals := 0 }
theorem pl_at {L : List Nat} {f : Nat → va_E} {a : Nat} {e : va_E} (h : a ∈ L) (hf : f a = e) : ∃ k : Nat, (va_pl L f)[k]? = some (a, e) := by
  obtain ⟨k, hk⟩ := va_pl_get (X := []) (f := f) h
  exact ⟨k, by rw [← hf]; exact hk⟩
