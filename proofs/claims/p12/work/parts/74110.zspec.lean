-- deps: 79997
/-! the replay: what work costs and makes, what it notes -/
/-- how many nodes at most, and what was made -/
abbrev Sz.Co := Nat × List Ob
def Sz.ad [DecidableEq Ob] (c : Sz.Co) (o : Ob) (n : Nat) : Sz.Co := (c.1 + n, o :: c.2)
/-- a note: the row, the term, whether its truth is asked, what came out, how many notes are within -/
abbrev Sz.Nt := Ob × Ob × Bool × Ob × Nat
abbrev Sz.Wk := Nat × Sz.Co × List Sz.Nt
abbrev Sz.M (α : Type) := Sz.Wk → EStateM.Result Unit Sz.Wk α
abbrev Sz.Ek := Nat × Nat × Sz.Co
abbrev Sz.ME (α : Type) := Sz.Ek → EStateM.Result Int Sz.Ek α
def Sz.row [DecidableEq Ob] (ctx : List Ob) : Ob := Ob.ofList ctx.reverse
def Sz.ret [DecidableEq Ob] {α : Type} (a : α) : Sz.M α := fun s => .ok a s
def Sz.fail [DecidableEq Ob] {α : Type} : Sz.M α := fun s => .error () s
def Sz.tick [DecidableEq Ob] : Sz.M Unit := fun s => if s.1 = 0 then .error () s else .ok () (s.1 - 1, s.2)
def Sz.pay [DecidableEq Ob] (o : Ob) (n : Nat) : Sz.M Unit := fun s => .ok () (s.1, Sz.ad s.2.1 o n, s.2.2)
def Sz.evArgs [DecidableEq Ob] (r : Ob → Sz.ME Ob) : List Ob → Sz.ME (List Ob)
  | [] => fun s => .ok [] s
  | a :: l => Sp.bd (r a) fun v => Sp.bd (Sz.evArgs r l) fun vs => fun s => .ok (v :: vs) s
def Sz.rwArgs [DecidableEq Ob] (r : Ob → Sz.M Ob) : List Ob → Sz.M (List Ob)
  | [] => Sz.ret []
  | a :: l => Sp.bd (r a) fun v => Sp.bd (Sz.rwArgs r l) fun vs => Sz.ret (v :: vs)
def Sz.ev [DecidableEq Ob] (E : Sp.Env) : Nat → (Ob → Ob) → Ob → Sz.ME Ob
  | 0, env, o => if Ob.isConst o then fun s => .ok (Ob.valOf o) s else if !Ob.isCall o then fun s => .ok (env o) s else fun s => .error 2 s
  | d + 1, env, o => if Ob.isConst o then fun s => .ok (Ob.valOf o) s else if !Ob.isCall o then fun s => .ok (env o) s
    else fun s => if s.2.1 = 0 then .error (-1) s else if s.1 = 0 then .error 1 s else
      (if Ob.lft o = Ob.ifS then Sp.bd (Sz.ev E d env (Ob.item o 1)) fun a => Sz.ev E d env (Ob.item o (if a = Ob.nil then 3 else 2))
       else Sp.bd (Sz.evArgs (Sz.ev E d env) (Ob.toList (Ob.rgt o))) fun vs =>
         match E.dfn (Ob.lft o) with
         | some D => Sz.ev E d (fun x => (Ob.lk (D.params.zip vs) x).getD Ob.nil) D.body
         | none => match Ob.base (Ob.lft o) (vs.getD 0 Ob.nil) (vs.getD 1 Ob.nil) with
           | some v => fun s => .ok v (s.1, s.2.1, Sz.ad s.2.2 v 1)
           | none => fun s => .error 3 s) (s.1 - 1, s.2.1 - 1, s.2.2)
def Sz.big [DecidableEq Ob] (o : Ob) (n : Nat) : Sz.M Ob := fun s => if 120 < Ob.sz o then .error () (s.1, (s.2.1.1 + n, s.2.1.2), s.2.2) else .ok o (s.1, Sz.ad s.2.1 o n, s.2.2)
def Sz.mk1 [DecidableEq Ob] (f a : Ob) : Sz.M Ob := Sz.big (.pr f (.pr a Ob.nil)) 2
def Sz.mk2 [DecidableEq Ob] (f a b : Ob) : Sz.M Ob := Sz.big (.pr f (.pr a (.pr b Ob.nil))) 3
def Sz.mk3 [DecidableEq Ob] (f a b c : Ob) : Sz.M Ob := Sz.big (.pr f (.pr a (.pr b (.pr c Ob.nil)))) 4
def Sz.mkNot [DecidableEq Ob] (o : Ob) : Sz.M Ob := if Ob.isCallOf o Ob.not then Sz.ret (Ob.item o 1) else if o = Ob.nil then Sz.ret Ob.t else if Ob.isConst o then Sz.ret Ob.nil else Sz.mk1 Ob.not o
def Sz.fill [DecidableEq Ob] (s : Ob → Ob) (o : Ob) : Sz.M Ob := Sz.big (Ob.sbM s false o) (if Ob.sbM s false o = o ∨ Ob.has [] (Ob.sbM s false o) = true then 0 else (Ob.csM false o).toNat)
def Sz.rwHyps [DecidableEq Ob] (r : Ob → Sz.M Ob) (s : Ob → Ob) : List Ob → Sz.M Bool
  | [] => Sz.ret true
  | h :: l => Sp.bd (Sz.fill s h) fun x => Sp.bd (r x) fun v => if v = Ob.t then Sz.rwHyps r s l else Sz.ret false
def Sz.plain [DecidableEq Ob] (u : Ob) : Option (Ob ⊕ Sz.M Ob) :=
  if Ob.lft u = Ob.equal then
    if Ob.item u 1 = Ob.item u 2 then some (.inl Ob.t)
    else if Ob.isCallOf (Ob.item u 1) Ob.cons && Ob.isCallOf (Ob.item u 2) Ob.cons then some (.inr (Sp.bd (Sz.mk2 Ob.equal (Ob.item (Ob.item u 1) 1) (Ob.item (Ob.item u 2) 1)) fun x => Sp.bd (Sz.mk2 Ob.equal (Ob.item (Ob.item u 1) 2) (Ob.item (Ob.item u 2) 2)) fun y => Sz.mk3 Ob.ifS x y Ob.nil))
    else if Ob.isCallOf (Ob.item u 1) Ob.cons && Ob.isConst (Ob.item u 2) && !Ob.isPr (Ob.valOf (Ob.item u 2)) then some (.inl Ob.nil)
    else if Ob.isCallOf (Ob.item u 2) Ob.cons && Ob.isConst (Ob.item u 1) && !Ob.isPr (Ob.valOf (Ob.item u 1)) then some (.inl Ob.nil)
    else none
  else if Ob.lft u = Ob.less then
    if Ob.item u 1 = Ob.item u 2 ∨ Ob.item u 2 = Ob.nat 0 then some (.inl Ob.nil)
    else if Ob.isCallOf (Ob.item u 1) Ob.height && Ob.isCallOf (Ob.item u 2) Ob.height && (Ob.isCallOf (Ob.item (Ob.item u 1) 1) Ob.car || Ob.isCallOf (Ob.item (Ob.item u 1) 1) Ob.cdr) && Ob.item (Ob.item (Ob.item u 1) 1) 1 = Ob.item (Ob.item u 2) 1 then some (.inr (Sz.mk1 Ob.consp (Ob.item (Ob.item u 2) 1)))
    else if Ob.isCallOf (Ob.item u 1) Ob.minus && Ob.item (Ob.item u 1) 1 = Ob.item u 2 && Ob.isNat (Ob.item (Ob.item u 1) 2) && decide (0 < Ob.num (Ob.item (Ob.item u 1) 2)) then some (.inr (Sp.bd (Sz.pay (.nat 0) 1) fun _ => Sz.mk2 Ob.less (.nat 0) (Ob.item u 2)))
    else none
  else if Ob.lft u = Ob.car then (if Ob.isCallOf (Ob.item u 1) Ob.cons then some (.inl (Ob.item (Ob.item u 1) 1)) else none)
  else if Ob.lft u = Ob.cdr then (if Ob.isCallOf (Ob.item u 1) Ob.cons then some (.inl (Ob.item (Ob.item u 1) 2)) else none)
  else if Ob.lft u = Ob.consp then (if Ob.isCallOf (Ob.item u 1) Ob.cons then some (.inl Ob.t) else if Sp.isNumd (Ob.item u 1) then some (.inl Ob.nil) else none)
  else if Ob.lft u = Ob.natp then (if Ob.isCallOf (Ob.item u 1) Ob.cons then some (.inl Ob.nil) else if Sp.isNumd (Ob.item u 1) then some (.inl Ob.t) else none)
  else if Ob.lft u = Ob.symbolp then (if Ob.isCallOf (Ob.item u 1) Ob.cons || Sp.isNumd (Ob.item u 1) then some (.inl Ob.nil) else none)
  else none
def Sz.unf [DecidableEq Ob] (E : Sp.Env) (r : Ob → Bool → Sz.M Ob) (u : Ob) (truth : Bool) : Sz.M Ob :=
  match E.dfn (Ob.lft u) with
  | none => Sz.ret u
  | some D =>
    if D.meas.isNone then Sp.bd (Sz.fill (Ob.lkD (D.params.zip (Ob.toList (Ob.rgt u)))) D.body) fun x => r x truth
    else if Ob.isCallOf D.body Ob.ifS then Sp.bd (Sz.fill (Ob.lkD (D.params.zip (Ob.toList (Ob.rgt u)))) (Ob.item D.body 1)) fun q => Sp.bd (r q true) fun a =>
      if Ob.isConst a then Sp.bd (Sz.fill (Ob.lkD (D.params.zip (Ob.toList (Ob.rgt u)))) (Ob.item D.body (if a = Ob.nil then 3 else 2))) fun x => r x truth else Sz.ret u
    else Sz.ret u
def Sz.rwRules [DecidableEq Ob] (E : Sp.Env) (r : Ob → Bool → Sz.M Ob) (u : Ob) (truth : Bool) : List Sp.Thm → Sz.M Ob
  | [] => Sz.unf E r u truth
  | k :: ks => match Sp.can E k truth with
    | none => Sz.rwRules E r u truth ks
    | some R => match Ob.mt R.lhs u with
      | none => Sz.rwRules E r u truth ks
      | some l => Sp.bd (Sz.tick) fun _ => Sp.bd ((if R.perm then Sp.bd (Sz.fill (Ob.lkD l) R.rhs) fun x => Sz.ret (Ob.smaller x u) else Sz.ret true)) fun g =>
        if g then Sp.bd (Sz.rwHyps (fun h => r h true) (Ob.lkD l) R.hyps) fun b =>
          if b then Sp.bd (Sz.fill (Ob.lkD l) R.rhs) fun x => r x truth else Sz.rwRules E r u truth ks
        else Sz.rwRules E r u truth ks
def Sz.rwRest [DecidableEq Ob] (E : Sp.Env) (r : Ob → Bool → Sz.M Ob) (ctx : List Ob) (u : Ob) (truth : Bool) : Sz.M Ob :=
  match Sz.plain u with
  | some (.inl o) => Sz.ret o
  | some (.inr m) => Sp.bd (m) fun x => r x truth
  | none => if Sp.look ctx u truth = u then Sz.rwRules E r u truth E.thms.reverse else Sz.ret (Sp.look ctx u truth)
def Sz.rwApply [DecidableEq Ob] (E : Sp.Env) (r : Ob → Bool → Sz.M Ob) (ctx : List Ob) (u : Ob) (truth : Bool) : Sz.M Ob :=
  if (Ob.toList (Ob.rgt u)).all Ob.isConst then
    match E.dfn (Ob.lft u) with
    | none => match Ob.base (Ob.lft u) (Ob.valOf (Ob.item u 1)) (Ob.valOf (Ob.item u 2)) with
      | some v => fun s => .ok (Ob.constOf v) (s.1, Sz.ad (Sz.ad s.2.1 v 1) (Ob.constOf v) 2, s.2.2)
      | none => Sz.rwRest E r ctx u truth
    | some _ => fun s => match Sz.ev E 300 (fun x => x) u (s.1, 100, s.2.1) with
      | .ok v s' => .ok (Ob.constOf v) (s'.1, Sz.ad s'.2.2 (Ob.constOf v) 2, s.2.2)
      | .error w s' => if w = 1 then .error () (s'.1, s'.2.2, s.2.2) else Sz.rwRest E r ctx u truth (s'.1, s'.2.2, s.2.2)
  else Sz.rwRest E r ctx u truth
def Sz.rwJoin [DecidableEq Ob] (truth : Bool) (a b c : Ob) : Sz.M Ob :=
  if b = c then Sz.ret b
  else if b = Ob.t ∧ c = Ob.nil ∧ (truth = true ∨ Ob.isBool a = true) then Sz.ret a
  else if b = Ob.nil ∧ c = Ob.t then Sz.mk1 Ob.not a
  else Sz.mk3 Ob.ifS a b c
def Sz.rwIf [DecidableEq Ob] (r : List Ob → Ob → Bool → Sz.M Ob) (ctx : List Ob) (o a : Ob) (truth : Bool) : Sz.M Ob :=
  if Ob.isConst a then r ctx (Ob.item o (if a = Ob.nil then 3 else 2)) truth
  else Sp.bd (Sz.pay (Sz.row (ctx ++ [if Ob.isCallOf a Ob.not then Ob.item a 1 else a])) 1) fun _ => Sp.bd (r (ctx ++ [if Ob.isCallOf a Ob.not then Ob.item a 1 else a]) (Ob.item o (if Ob.isCallOf a Ob.not then 3 else 2)) truth) fun b =>
    Sp.bd (Sz.mkNot (if Ob.isCallOf a Ob.not then Ob.item a 1 else a)) fun nA => Sp.bd (Sz.pay (Sz.row (ctx ++ [nA])) 1) fun _ =>
    Sp.bd (r (ctx ++ [nA]) (Ob.item o (if Ob.isCallOf a Ob.not then 2 else 3)) truth) fun c => Sz.rwJoin truth (if Ob.isCallOf a Ob.not then Ob.item a 1 else a) b c
def Sz.rwNot [DecidableEq Ob] (ctx : List Ob) (a : Ob) (truth : Bool) : Sz.M Ob :=
  Sp.bd ((if Ob.isCallOf a Ob.not && !Ob.isBool (Ob.item a 1) && !truth then Sz.mk1 Ob.not a else Sz.mkNot a)) fun x =>
    Sz.ret (if Ob.isConst x then x else Sp.look ctx x truth)
def Sz.rwStep [DecidableEq Ob] (E : Sp.Env) (r : List Ob → Ob → Bool → Sz.M Ob) (ctx : List Ob) (o : Ob) (truth : Bool) : Sz.M Ob :=
  if Ob.isConst o then Sz.ret o
  else if !Ob.isCall o then Sz.ret (Sp.look ctx o truth)
  else if Ob.lft o = Ob.ifS then Sp.bd (r ctx (Ob.item o 1) true) fun a => Sz.rwIf r ctx o a truth
  else if Ob.lft o = Ob.implies then Sp.bd (Sz.mk3 Ob.ifS (Ob.item o 2) Ob.t Ob.nil) fun i => Sp.bd (Sz.mk3 Ob.ifS (Ob.item o 1) i Ob.t) fun w => r ctx w truth
  else if Ob.lft o = Ob.not then Sp.bd (r ctx (Ob.item o 1) true) fun a => Sz.rwNot ctx a truth
  else Sp.bd (Sz.rwArgs (fun a => r ctx a false) (Ob.toList (Ob.rgt o))) fun as => Sp.bd (Sz.big (.pr (Ob.lft o) (Ob.ofList as)) (as.length + 1)) fun u => Sz.rwApply E (r ctx) ctx u truth
/-- a term asked: its own notes come behind it -/
def Sz.asked [DecidableEq Ob] (ctx : List Ob) (o : Ob) (truth : Bool) (m : Sz.M Ob) : Sz.M Ob := fun s =>
  match m (s.1, s.2.1, []) with
  | .ok v s' => .ok (Sp.fin truth v) (s'.1, s'.2.1, s.2.2 ++ (Sz.row ctx, o, truth, Sp.fin truth v, s'.2.2.length) :: s'.2.2)
  | .error e s' => .error e s'
def Sz.rw [DecidableEq Ob] (E : Sp.Env) : Nat → List Ob → Ob → Bool → Sz.M Ob
  | 0, _, _, _ => Sz.fail
  | d + 1, ctx, o, truth => Sp.bd (Sz.tick) fun _ => Sz.asked ctx o truth (Sz.rwStep E (Sz.rw E d) ctx o truth)
/-- a term recalled: the next note answers, those within it are passed over -/
def Sz.rc [DecidableEq Ob] (ctx : List Ob) (o : Ob) (truth : Bool) : Sz.M Ob := fun s => match s.2.2 with
  | [] => .error () s
  | n :: t => if n.1 = Sz.row ctx ∧ n.2.1 = o ∧ n.2.2.1 = truth then .ok n.2.2.2.1 (s.1, s.2.1, t.drop n.2.2.2.2) else .error () s
