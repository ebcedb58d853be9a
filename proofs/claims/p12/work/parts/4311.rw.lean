-- deps: 431
def Sp.Env.dfn [DecidableEq Ob] (E : Sp.Env) (f : Ob) : Option Sp.Dfn := E.defs.find? (fun d => d.name = f)
def Sp.Env.thmOf [DecidableEq Ob] (E : Sp.Env) (f : Ob) : Option Sp.Thm := E.thms.find? (fun d => d.name = f)
def Sp.ev [DecidableEq Ob] (E : Sp.Env) : Nat → (Ob → Ob) → Ob → Sp.ME Ob
  | 0, env, o => if Ob.isConst o then fun s => .ok (Ob.valOf o) s else if !Ob.isCall o then fun s => .ok (env o) s else fun s => .error 2 s
  | d + 1, env, o => if Ob.isConst o then fun s => .ok (Ob.valOf o) s else if !Ob.isCall o then fun s => .ok (env o) s
    else fun s => if s.2.1 = 0 then .error (-1) s else if s.1 = 0 then .error 1 s else
      (if Ob.lft o = Ob.ifS then Sp.bd (Sp.ev E d env (Ob.item o 1)) fun a => Sp.ev E d env (Ob.item o (if a = Ob.nil then 3 else 2))
       else Sp.bd (Sp.evArgs (Sp.ev E d env) (Ob.toList (Ob.rgt o))) fun vs =>
         match E.dfn (Ob.lft o) with
         | some D => Sp.ev E d (fun x => (Ob.lk (D.params.zip vs) x).getD Ob.nil) D.body
         | none => match Ob.base (Ob.lft o) (vs.getD 0 Ob.nil) (vs.getD 1 Ob.nil) with
           | some v => fun s => .ok v (s.1, s.2.1, s.2.2 + 1)
           | none => fun s => .error 3 s) (s.1 - 1, s.2.1 - 1, s.2.2)
/-! making terms -/
def Sp.big [DecidableEq Ob] (o : Ob) (n : Nat) : Sp.M Ob := fun s => if 120 < Ob.sz o then .error () (s.1, s.2 + n) else .ok o (s.1, s.2 + n)
def Sp.mk1 [DecidableEq Ob] (f a : Ob) : Sp.M Ob := Sp.big (.pr f (.pr a Ob.nil)) 2
def Sp.mk2 [DecidableEq Ob] (f a b : Ob) : Sp.M Ob := Sp.big (.pr f (.pr a (.pr b Ob.nil))) 3
def Sp.mk3 [DecidableEq Ob] (f a b c : Ob) : Sp.M Ob := Sp.big (.pr f (.pr a (.pr b (.pr c Ob.nil)))) 4
def Sp.mkNot [DecidableEq Ob] (o : Ob) : Sp.M Ob := if Ob.isCallOf o Ob.not then Sp.ret (Ob.item o 1) else if o = Ob.nil then Sp.ret Ob.t else if Ob.isConst o then Sp.ret Ob.nil else Sp.mk1 Ob.not o
/-- an instance; what is there already costs nothing -/
def Sp.fillU [DecidableEq Ob] (xs : List Ob) (s : Ob → Ob) (o : Ob) : Sp.M Ob := Sp.big (Ob.sbM s false o) (if Ob.sbM s false o = o ∨ Ob.has xs (Ob.sbM s false o) = true then 0 else (Ob.csM false o).toNat)
def Sp.fill [DecidableEq Ob] (s : Ob → Ob) (o : Ob) : Sp.M Ob := Sp.fillU [] s o
/-! rewriting -/
/-- what an equality in the context makes of it -/
def Sp.eqIn [DecidableEq Ob] (o c : Ob) : Option Ob := if Ob.isCallOf c Ob.equal then (if Ob.item c 1 = o ∧ Ob.isConst (Ob.item c 2) then some (Ob.item c 2) else if Ob.item c 2 = o ∧ Ob.isConst (Ob.item c 1) then some (Ob.item c 1) else none) else none
def Sp.look [DecidableEq Ob] (ctx : List Ob) (o : Ob) (truth : Bool) : Ob :=
  if Ob.has ctx o && (truth || Ob.isBool o) then Ob.t
  else if ctx.any (fun c => Ob.isCallOf c Ob.not && Ob.item c 1 = o) then Ob.nil
  else (ctx.findSome? (Sp.eqIn o)).getD o
def Sp.rwHyps [DecidableEq Ob] (r : Ob → Sp.M Ob) (s : Ob → Ob) : List Ob → Sp.M Bool
  | [] => Sp.ret true
  | h :: l => Sp.bd (Sp.fill s h) fun x => Sp.bd (r x) fun v => if v = Ob.t then Sp.rwHyps r s l else Sp.ret false
def Sp.isNumd [DecidableEq Ob] (o : Ob) : Bool := Ob.isCallOf o Ob.plus || Ob.isCallOf o Ob.minus || Ob.isCallOf o Ob.height
/-- what a call of a BASE function is by its form: a term that it is (inl), or one to be REWRITTEN -/
def Sp.plain [DecidableEq Ob] (u : Ob) : Option (Ob ⊕ Sp.M Ob) :=
  if Ob.lft u = Ob.equal then
    if Ob.item u 1 = Ob.item u 2 then some (.inl Ob.t)
    else if Ob.isCallOf (Ob.item u 1) Ob.cons && Ob.isCallOf (Ob.item u 2) Ob.cons then some (.inr (Sp.bd (Sp.mk2 Ob.equal (Ob.item (Ob.item u 1) 1) (Ob.item (Ob.item u 2) 1)) fun x => Sp.bd (Sp.mk2 Ob.equal (Ob.item (Ob.item u 1) 2) (Ob.item (Ob.item u 2) 2)) fun y => Sp.mk3 Ob.ifS x y Ob.nil))
    else if Ob.isCallOf (Ob.item u 1) Ob.cons && Ob.isConst (Ob.item u 2) && !Ob.isPr (Ob.valOf (Ob.item u 2)) then some (.inl Ob.nil)
    else if Ob.isCallOf (Ob.item u 2) Ob.cons && Ob.isConst (Ob.item u 1) && !Ob.isPr (Ob.valOf (Ob.item u 1)) then some (.inl Ob.nil)
    else none
  else if Ob.lft u = Ob.less then
    if Ob.item u 1 = Ob.item u 2 ∨ Ob.item u 2 = Ob.nat 0 then some (.inl Ob.nil)
    else if Ob.isCallOf (Ob.item u 1) Ob.height && Ob.isCallOf (Ob.item u 2) Ob.height && (Ob.isCallOf (Ob.item (Ob.item u 1) 1) Ob.car || Ob.isCallOf (Ob.item (Ob.item u 1) 1) Ob.cdr) && Ob.item (Ob.item (Ob.item u 1) 1) 1 = Ob.item (Ob.item u 2) 1 then some (.inr (Sp.mk1 Ob.consp (Ob.item (Ob.item u 2) 1)))
    else if Ob.isCallOf (Ob.item u 1) Ob.minus && Ob.item (Ob.item u 1) 1 = Ob.item u 2 && Ob.isNat (Ob.item (Ob.item u 1) 2) && decide (0 < Ob.num (Ob.item (Ob.item u 1) 2)) then some (.inr (Sp.bd (Sp.pay 1) fun _ => Sp.mk2 Ob.less (.nat 0) (Ob.item u 2)))
    else none
  else if Ob.lft u = Ob.car then (if Ob.isCallOf (Ob.item u 1) Ob.cons then some (.inl (Ob.item (Ob.item u 1) 1)) else none)
  else if Ob.lft u = Ob.cdr then (if Ob.isCallOf (Ob.item u 1) Ob.cons then some (.inl (Ob.item (Ob.item u 1) 2)) else none)
  else if Ob.lft u = Ob.consp then (if Ob.isCallOf (Ob.item u 1) Ob.cons then some (.inl Ob.t) else if Sp.isNumd (Ob.item u 1) then some (.inl Ob.nil) else none)
  else if Ob.lft u = Ob.natp then (if Ob.isCallOf (Ob.item u 1) Ob.cons then some (.inl Ob.nil) else if Sp.isNumd (Ob.item u 1) then some (.inl Ob.t) else none)
  else if Ob.lft u = Ob.symbolp then (if Ob.isCallOf (Ob.item u 1) Ob.cons || Sp.isNumd (Ob.item u 1) then some (.inl Ob.nil) else none)
  else none
def Sp.unf [DecidableEq Ob] (E : Sp.Env) (r : Ob → Bool → Sp.M Ob) (u : Ob) (truth : Bool) : Sp.M Ob :=
  match E.dfn (Ob.lft u) with
  | none => Sp.ret u
  | some D =>
    if D.meas.isNone then Sp.bd (Sp.fill (Ob.lkD (D.params.zip (Ob.toList (Ob.rgt u)))) D.body) fun x => r x truth
    else if Ob.isCallOf D.body Ob.ifS then Sp.bd (Sp.fill (Ob.lkD (D.params.zip (Ob.toList (Ob.rgt u)))) (Ob.item D.body 1)) fun q => Sp.bd (r q true) fun a =>
      if Ob.isConst a then Sp.bd (Sp.fill (Ob.lkD (D.params.zip (Ob.toList (Ob.rgt u)))) (Ob.item D.body (if a = Ob.nil then 3 else 2))) fun x => r x truth else Sp.ret u
    else Sp.ret u
def Sp.can [DecidableEq Ob] (E : Sp.Env) (k : Sp.Thm) (truth : Bool) : Option Sp.Rul :=
  match k.rule with
  | some R => if R.on && !Ob.has E.muted k.name && (truth || !R.truth) then some R else none
  | none => none
def Sp.rwRules [DecidableEq Ob] (E : Sp.Env) (r : Ob → Bool → Sp.M Ob) (u : Ob) (truth : Bool) : List Sp.Thm → Sp.M Ob
  | [] => Sp.unf E r u truth
  | k :: ks => match Sp.can E k truth with
    | none => Sp.rwRules E r u truth ks
    | some R => match Ob.mt R.lhs u with
      | none => Sp.rwRules E r u truth ks
      | some l => Sp.bd (Sp.tick) fun _ => Sp.bd ((if R.perm then Sp.bd (Sp.fill (Ob.lkD l) R.rhs) fun x => Sp.ret (Ob.smaller x u) else Sp.ret true)) fun g =>
        if g then Sp.bd (Sp.rwHyps (fun h => r h true) (Ob.lkD l) R.hyps) fun b =>
          if b then Sp.bd (Sp.fill (Ob.lkD l) R.rhs) fun x => r x truth else Sp.rwRules E r u truth ks
        else Sp.rwRules E r u truth ks
/-- what is tried behind evaluation -/
def Sp.rwRest [DecidableEq Ob] (E : Sp.Env) (r : Ob → Bool → Sp.M Ob) (ctx : List Ob) (u : Ob) (truth : Bool) : Sp.M Ob :=
  match Sp.plain u with
  | some (.inl o) => Sp.ret o
  | some (.inr m) => Sp.bd (m) fun x => r x truth
  | none => if Sp.look ctx u truth = u then Sp.rwRules E r u truth E.thms.reverse else Sp.ret (Sp.look ctx u truth)
def Sp.rwApply [DecidableEq Ob] (E : Sp.Env) (r : Ob → Bool → Sp.M Ob) (ctx : List Ob) (u : Ob) (truth : Bool) : Sp.M Ob :=
  if (Ob.toList (Ob.rgt u)).all Ob.isConst then
    match E.dfn (Ob.lft u) with
    | none => match Ob.base (Ob.lft u) (Ob.valOf (Ob.item u 1)) (Ob.valOf (Ob.item u 2)) with
      | some v => fun s => .ok (Ob.constOf v) (s.1, s.2 + 3)
      | none => Sp.rwRest E r ctx u truth
    | some _ => fun s => match Sp.ev E 300 (fun x => x) u (s.1, 100, s.2) with
      | .ok v s' => .ok (Ob.constOf v) (s'.1, s'.2.2 + 2)
      | .error w s' => if w = 1 then .error () (s'.1, s'.2.2) else Sp.rwRest E r ctx u truth (s'.1, s'.2.2)
  else Sp.rwRest E r ctx u truth
def Sp.rwJoin [DecidableEq Ob] (truth : Bool) (a b c : Ob) : Sp.M Ob :=
  if b = c then Sp.ret b
  else if b = Ob.t ∧ c = Ob.nil ∧ (truth = true ∨ Ob.isBool a = true) then Sp.ret a
  else if b = Ob.nil ∧ c = Ob.t then Sp.mk1 Ob.not a
  else Sp.mk3 Ob.ifS a b c
/-- an IF whose test came as a -/
def Sp.rwIf [DecidableEq Ob] (r : List Ob → Ob → Bool → Sp.M Ob) (ctx : List Ob) (o a : Ob) (truth : Bool) : Sp.M Ob :=
  if Ob.isConst a then r ctx (Ob.item o (if a = Ob.nil then 3 else 2)) truth
  else Sp.bd (Sp.pay 1) fun _ => Sp.bd (r (ctx ++ [if Ob.isCallOf a Ob.not then Ob.item a 1 else a]) (Ob.item o (if Ob.isCallOf a Ob.not then 3 else 2)) truth) fun b =>
    Sp.bd (Sp.mkNot (if Ob.isCallOf a Ob.not then Ob.item a 1 else a)) fun nA => Sp.bd (Sp.pay 1) fun _ =>
    Sp.bd (r (ctx ++ [nA]) (Ob.item o (if Ob.isCallOf a Ob.not then 2 else 3)) truth) fun c => Sp.rwJoin truth (if Ob.isCallOf a Ob.not then Ob.item a 1 else a) b c
def Sp.rwNot [DecidableEq Ob] (ctx : List Ob) (a : Ob) (truth : Bool) : Sp.M Ob :=
  Sp.bd ((if Ob.isCallOf a Ob.not && !Ob.isBool (Ob.item a 1) && !truth then Sp.mk1 Ob.not a else Sp.mkNot a)) fun x =>
    Sp.ret (if Ob.isConst x then x else Sp.look ctx x truth)
def Sp.rwStep [DecidableEq Ob] (E : Sp.Env) (r : List Ob → Ob → Bool → Sp.M Ob) (ctx : List Ob) (o : Ob) (truth : Bool) : Sp.M Ob :=
  if Ob.isConst o then Sp.ret o
  else if !Ob.isCall o then Sp.ret (Sp.look ctx o truth)
  else if Ob.lft o = Ob.ifS then Sp.bd (r ctx (Ob.item o 1) true) fun a => Sp.rwIf r ctx o a truth
  else if Ob.lft o = Ob.implies then Sp.bd (Sp.mk3 Ob.ifS (Ob.item o 2) Ob.t Ob.nil) fun i => Sp.bd (Sp.mk3 Ob.ifS (Ob.item o 1) i Ob.t) fun w => r ctx w truth
  else if Ob.lft o = Ob.not then Sp.bd (r ctx (Ob.item o 1) true) fun a => Sp.rwNot ctx a truth
  else Sp.bd (Sp.rwArgs (fun a => r ctx a false) (Ob.toList (Ob.rgt o))) fun as => Sp.bd (Sp.big (.pr (Ob.lft o) (Ob.ofList as)) (as.length + 1)) fun u => Sp.rwApply E (r ctx) ctx u truth
def Sp.fin [DecidableEq Ob] (truth : Bool) (o : Ob) : Ob := if truth && o ≠ Ob.nil && Ob.isConst o then Ob.t else o
def Sp.rw [DecidableEq Ob] (E : Sp.Env) : Nat → List Ob → Ob → Bool → Sp.M Ob
  | 0, _, _, _ => Sp.fail
  | d + 1, ctx, o, truth => Sp.bd (Sp.tick) fun _ => Sp.bd (Sp.rwStep E (Sp.rw E d) ctx o truth) fun v => Sp.ret (Sp.fin truth v)
