-- deps: 4301
-- nodec
/-! what both do: STEPS, evaluation, rewriting. A state: STEPS left, pairs and naturals made (at most) -/
abbrev Sp.Wk := Nat × Nat
abbrev Sp.M (α : Type) := Sp.Wk → EStateM.Result Unit Sp.Wk α
/-- one behind the other -/
def Sp.bd {ε σ α β : Type} (x : σ → EStateM.Result ε σ α) (f : α → σ → EStateM.Result ε σ β) : σ → EStateM.Result ε σ β := fun s => match x s with | .ok a s' => f a s' | .error e s' => .error e s'
def Sp.ret {α : Type} (a : α) : Sp.M α := fun s => .ok a s
def Sp.fail {α : Type} : Sp.M α := fun s => .error () s
def Sp.tick : Sp.M Unit := fun s => if s.1 = 0 then .error () s else .ok () (s.1 - 1, s.2)
def Sp.pay (n : Nat) : Sp.M Unit := fun s => .ok () (s.1, s.2 + n)
/-- a RULE: left, right, hypotheses, of truth alone, turning, on -/
abbrev Sp.Rul := Ob × Ob × List Ob × Bool × Bool × Bool
abbrev Sp.Rul.lhs (r : Sp.Rul) : Ob := r.1
abbrev Sp.Rul.rhs (r : Sp.Rul) : Ob := r.2.1
abbrev Sp.Rul.hyps (r : Sp.Rul) : List Ob := r.2.2.1
abbrev Sp.Rul.truth (r : Sp.Rul) : Bool := r.2.2.2.1
abbrev Sp.Rul.perm (r : Sp.Rul) : Bool := r.2.2.2.2.1
abbrev Sp.Rul.on (r : Sp.Rul) : Bool := r.2.2.2.2.2
/-- a theorem: name, formula, kind, rule -/
abbrev Sp.Thm := Ob × Ob × Int × Option Sp.Rul
abbrev Sp.Thm.name (k : Sp.Thm) : Ob := k.1
abbrev Sp.Thm.form (k : Sp.Thm) : Ob := k.2.1
abbrev Sp.Thm.kind (k : Sp.Thm) : Int := k.2.2.1
abbrev Sp.Thm.rule (k : Sp.Thm) : Option Sp.Rul := k.2.2.2
/-- a definition: name, parameters, body, measure -/
abbrev Sp.Dfn := Ob × List Ob × Ob × Option Ob
abbrev Sp.Dfn.name (d : Sp.Dfn) : Ob := d.1
abbrev Sp.Dfn.params (d : Sp.Dfn) : List Ob := d.2.1
abbrev Sp.Dfn.body (d : Sp.Dfn) : Ob := d.2.2.1
abbrev Sp.Dfn.meas (d : Sp.Dfn) : Option Ob := d.2.2.2
/-- definitions, theorems, rules that are muted -/
abbrev Sp.Env := List Sp.Dfn × List Sp.Thm × List Ob
abbrev Sp.Env.defs (E : Sp.Env) : List Sp.Dfn := E.1
abbrev Sp.Env.thms (E : Sp.Env) : List Sp.Thm := E.2.1
abbrev Sp.Env.muted (E : Sp.Env) : List Ob := E.2.2
/-! evaluation: STEPS left, STEPS of its own left, made -/
abbrev Sp.Ek := Nat × Nat × Nat
abbrev Sp.ME (α : Type) := Sp.Ek → EStateM.Result Int Sp.Ek α
def Sp.evArgs (r : Ob → Sp.ME Ob) : List Ob → Sp.ME (List Ob)
  | [] => fun s => .ok [] s
  | a :: l => Sp.bd (r a) fun v => Sp.bd (Sp.evArgs r l) fun vs => fun s => .ok (v :: vs) s
def Sp.rwArgs (r : Ob → Sp.M Ob) : List Ob → Sp.M (List Ob)
  | [] => Sp.ret []
  | a :: l => Sp.bd (r a) fun v => Sp.bd (Sp.rwArgs r l) fun vs => Sp.ret (v :: vs)
