-- deps: 4303
/-! how many terms the base functions take -/
theorem isBase_ifS [DecidableEq Ob] : Ob.isBase Ob.ifS = true := by unfold Ob.isBase; simp
theorem isBase_equal [DecidableEq Ob] : Ob.isBase Ob.equal = true := by unfold Ob.isBase; simp
theorem isBase_cons [DecidableEq Ob] : Ob.isBase Ob.cons = true := by unfold Ob.isBase; simp
theorem isBase_implies [DecidableEq Ob] : Ob.isBase Ob.implies = true := by unfold Ob.isBase; simp
theorem isBase_plus [DecidableEq Ob] : Ob.isBase Ob.plus = true := by unfold Ob.isBase; simp
theorem isBase_minus [DecidableEq Ob] : Ob.isBase Ob.minus = true := by unfold Ob.isBase; simp
theorem isBase_less [DecidableEq Ob] : Ob.isBase Ob.less = true := by unfold Ob.isBase; simp
theorem isBase_consp [DecidableEq Ob] : Ob.isBase Ob.consp = true := by unfold Ob.isBase; simp
theorem isBase_car [DecidableEq Ob] : Ob.isBase Ob.car = true := by unfold Ob.isBase; simp
theorem isBase_cdr [DecidableEq Ob] : Ob.isBase Ob.cdr = true := by unfold Ob.isBase; simp
theorem isBase_natp [DecidableEq Ob] : Ob.isBase Ob.natp = true := by unfold Ob.isBase; simp
theorem isBase_symbolp [DecidableEq Ob] : Ob.isBase Ob.symbolp = true := by unfold Ob.isBase; simp
theorem isBase_not [DecidableEq Ob] : Ob.isBase Ob.not = true := by unfold Ob.isBase; simp
theorem isBase_height [DecidableEq Ob] : Ob.isBase Ob.height = true := by unfold Ob.isBase; simp
theorem arOf_ifS [DecidableEq Ob] (E : Sp.Env) : Sp.arOf E Ob.ifS = 3 := by unfold Sp.arOf; rw [if_pos rfl]
theorem arOf_equal [DecidableEq Ob] (E : Sp.Env) : Sp.arOf E Ob.equal = 2 := by unfold Sp.arOf; rw [if_neg (show Ob.equal ≠ Ob.ifS from Ob.sym_ne (by decide)), if_pos (by simp)]
theorem arOf_cons [DecidableEq Ob] (E : Sp.Env) : Sp.arOf E Ob.cons = 2 := by unfold Sp.arOf; rw [if_neg (show Ob.cons ≠ Ob.ifS from Ob.sym_ne (by decide)), if_pos (by simp)]
theorem arOf_implies [DecidableEq Ob] (E : Sp.Env) : Sp.arOf E Ob.implies = 2 := by unfold Sp.arOf; rw [if_neg (show Ob.implies ≠ Ob.ifS from Ob.sym_ne (by decide)), if_pos (by simp)]
theorem arOf_plus [DecidableEq Ob] (E : Sp.Env) : Sp.arOf E Ob.plus = 2 := by unfold Sp.arOf; rw [if_neg (show Ob.plus ≠ Ob.ifS from Ob.sym_ne (by decide)), if_pos (by simp)]
theorem arOf_minus [DecidableEq Ob] (E : Sp.Env) : Sp.arOf E Ob.minus = 2 := by unfold Sp.arOf; rw [if_neg (show Ob.minus ≠ Ob.ifS from Ob.sym_ne (by decide)), if_pos (by simp)]
theorem arOf_less [DecidableEq Ob] (E : Sp.Env) : Sp.arOf E Ob.less = 2 := by unfold Sp.arOf; rw [if_neg (show Ob.less ≠ Ob.ifS from Ob.sym_ne (by decide)), if_pos (by simp)]
theorem arOf_consp [DecidableEq Ob] (E : Sp.Env) : Sp.arOf E Ob.consp = 1 := by
  unfold Sp.arOf
  rw [if_neg (show Ob.consp ≠ Ob.ifS from Ob.sym_ne (by decide)), if_neg (fun h => ?_), if_pos isBase_consp]
  rcases h with h | h | h | h | h | h
  · exact absurd h (show Ob.consp ≠ Ob.equal from Ob.sym_ne (by decide))
  · exact absurd h (show Ob.consp ≠ Ob.cons from Ob.sym_ne (by decide))
  · exact absurd h (show Ob.consp ≠ Ob.implies from Ob.sym_ne (by decide))
  · exact absurd h (show Ob.consp ≠ Ob.plus from Ob.sym_ne (by decide))
  · exact absurd h (show Ob.consp ≠ Ob.minus from Ob.sym_ne (by decide))
  · exact absurd h (show Ob.consp ≠ Ob.less from Ob.sym_ne (by decide))
theorem arOf_car [DecidableEq Ob] (E : Sp.Env) : Sp.arOf E Ob.car = 1 := by
  unfold Sp.arOf
  rw [if_neg (show Ob.car ≠ Ob.ifS from Ob.sym_ne (by decide)), if_neg (fun h => ?_), if_pos isBase_car]
  rcases h with h | h | h | h | h | h
  · exact absurd h (show Ob.car ≠ Ob.equal from Ob.sym_ne (by decide))
  · exact absurd h (show Ob.car ≠ Ob.cons from Ob.sym_ne (by decide))
  · exact absurd h (show Ob.car ≠ Ob.implies from Ob.sym_ne (by decide))
  · exact absurd h (show Ob.car ≠ Ob.plus from Ob.sym_ne (by decide))
  · exact absurd h (show Ob.car ≠ Ob.minus from Ob.sym_ne (by decide))
  · exact absurd h (show Ob.car ≠ Ob.less from Ob.sym_ne (by decide))
theorem arOf_cdr [DecidableEq Ob] (E : Sp.Env) : Sp.arOf E Ob.cdr = 1 := by
  unfold Sp.arOf
  rw [if_neg (show Ob.cdr ≠ Ob.ifS from Ob.sym_ne (by decide)), if_neg (fun h => ?_), if_pos isBase_cdr]
  rcases h with h | h | h | h | h | h
  · exact absurd h (show Ob.cdr ≠ Ob.equal from Ob.sym_ne (by decide))
  · exact absurd h (show Ob.cdr ≠ Ob.cons from Ob.sym_ne (by decide))
  · exact absurd h (show Ob.cdr ≠ Ob.implies from Ob.sym_ne (by decide))
  · exact absurd h (show Ob.cdr ≠ Ob.plus from Ob.sym_ne (by decide))
  · exact absurd h (show Ob.cdr ≠ Ob.minus from Ob.sym_ne (by decide))
  · exact absurd h (show Ob.cdr ≠ Ob.less from Ob.sym_ne (by decide))
theorem arOf_natp [DecidableEq Ob] (E : Sp.Env) : Sp.arOf E Ob.natp = 1 := by
  unfold Sp.arOf
  rw [if_neg (show Ob.natp ≠ Ob.ifS from Ob.sym_ne (by decide)), if_neg (fun h => ?_), if_pos isBase_natp]
  rcases h with h | h | h | h | h | h
  · exact absurd h (show Ob.natp ≠ Ob.equal from Ob.sym_ne (by decide))
  · exact absurd h (show Ob.natp ≠ Ob.cons from Ob.sym_ne (by decide))
  · exact absurd h (show Ob.natp ≠ Ob.implies from Ob.sym_ne (by decide))
  · exact absurd h (show Ob.natp ≠ Ob.plus from Ob.sym_ne (by decide))
  · exact absurd h (show Ob.natp ≠ Ob.minus from Ob.sym_ne (by decide))
  · exact absurd h (show Ob.natp ≠ Ob.less from Ob.sym_ne (by decide))
theorem arOf_symbolp [DecidableEq Ob] (E : Sp.Env) : Sp.arOf E Ob.symbolp = 1 := by
  unfold Sp.arOf
  rw [if_neg (show Ob.symbolp ≠ Ob.ifS from Ob.sym_ne (by decide)), if_neg (fun h => ?_), if_pos isBase_symbolp]
  rcases h with h | h | h | h | h | h
  · exact absurd h (show Ob.symbolp ≠ Ob.equal from Ob.sym_ne (by decide))
  · exact absurd h (show Ob.symbolp ≠ Ob.cons from Ob.sym_ne (by decide))
  · exact absurd h (show Ob.symbolp ≠ Ob.implies from Ob.sym_ne (by decide))
  · exact absurd h (show Ob.symbolp ≠ Ob.plus from Ob.sym_ne (by decide))
  · exact absurd h (show Ob.symbolp ≠ Ob.minus from Ob.sym_ne (by decide))
  · exact absurd h (show Ob.symbolp ≠ Ob.less from Ob.sym_ne (by decide))
theorem arOf_not [DecidableEq Ob] (E : Sp.Env) : Sp.arOf E Ob.not = 1 := by
  unfold Sp.arOf
  rw [if_neg (show Ob.not ≠ Ob.ifS from Ob.sym_ne (by decide)), if_neg (fun h => ?_), if_pos isBase_not]
  rcases h with h | h | h | h | h | h
  · exact absurd h (show Ob.not ≠ Ob.equal from Ob.sym_ne (by decide))
  · exact absurd h (show Ob.not ≠ Ob.cons from Ob.sym_ne (by decide))
  · exact absurd h (show Ob.not ≠ Ob.implies from Ob.sym_ne (by decide))
  · exact absurd h (show Ob.not ≠ Ob.plus from Ob.sym_ne (by decide))
  · exact absurd h (show Ob.not ≠ Ob.minus from Ob.sym_ne (by decide))
  · exact absurd h (show Ob.not ≠ Ob.less from Ob.sym_ne (by decide))
theorem arOf_height [DecidableEq Ob] (E : Sp.Env) : Sp.arOf E Ob.height = 1 := by
  unfold Sp.arOf
  rw [if_neg (show Ob.height ≠ Ob.ifS from Ob.sym_ne (by decide)), if_neg (fun h => ?_), if_pos isBase_height]
  rcases h with h | h | h | h | h | h
  · exact absurd h (show Ob.height ≠ Ob.equal from Ob.sym_ne (by decide))
  · exact absurd h (show Ob.height ≠ Ob.cons from Ob.sym_ne (by decide))
  · exact absurd h (show Ob.height ≠ Ob.implies from Ob.sym_ne (by decide))
  · exact absurd h (show Ob.height ≠ Ob.plus from Ob.sym_ne (by decide))
  · exact absurd h (show Ob.height ≠ Ob.minus from Ob.sym_ne (by decide))
  · exact absurd h (show Ob.height ≠ Ob.less from Ob.sym_ne (by decide))
theorem find_rng [DecidableEq Ob] {α : Type} {g : Nat → α} {p : α → Bool} : ∀ n : Nat, (∀ d, d < n → p (g d) = true → (∀ e, e < d → p (g e) = false) → ((List.range n).map g).find? p = some (g d)) ∧ ((∀ e, e < n → p (g e) = false) → ((List.range n).map g).find? p = none)
  | 0 => ⟨fun d hd => by omega, fun _ => rfl⟩
  | n + 1 => by
    have ih := find_rng (g := g) (p := p) n
    rw [List.range_succ, List.map_append, List.find?_append]
    refine ⟨fun d hd hp he => ?_, fun he => ?_⟩
    · by_cases c : d < n
      · rw [ih.1 d c hp he]; rfl
      · have : d = n := by omega
        subst this
        rw [ih.2 he]
        show ([g d].find? p) = _
        simp [hp]
    · rw [ih.2 (fun e h => he e (by omega))]
      have := he n (by omega)
      simp [this]
/-- a call of what is not known has no number of terms -/
theorem arOf_ne [DecidableEq Ob] {E : Sp.Env} {f : Ob} (h : Sp.arOf E f ≠ -1) (hb : f.isBase = false) : (E.dfn f).isSome = true ∧ ∀ D, E.dfn f = some D → Sp.arOf E f = (D.params.length : Int) := by
  have n1 : f ≠ Ob.ifS := fun e => by rw [e, isBase_ifS] at hb; cases hb
  have n2 : ¬ (f = Ob.equal ∨ f = Ob.cons ∨ f = Ob.implies ∨ f = Ob.plus ∨ f = Ob.minus ∨ f = Ob.less) := by
    rintro (e | e | e | e | e | e) <;> rw [e] at hb
    · rw [isBase_equal] at hb; cases hb
    · rw [isBase_cons] at hb; cases hb
    · rw [isBase_implies] at hb; cases hb
    · rw [isBase_plus] at hb; cases hb
    · rw [isBase_minus] at hb; cases hb
    · rw [isBase_less] at hb; cases hb
  have e : Sp.arOf E f = match E.dfn f with | some D => (D.params.length : Int) | none => -1 := by
    unfold Sp.arOf
    rw [if_neg n1, if_neg n2, if_neg (by rw [hb]; decide)]
    rfl
  rw [e] at h ⊢
  cases hd : E.dfn f with
  | none => rw [hd] at h; exact absurd rfl h
  | some D => exact ⟨rfl, fun D' e' => by cases e'; rfl⟩
