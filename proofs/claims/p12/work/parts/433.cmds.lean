-- deps: 432
/-! what both do: told proofs, hints, commands -/
def Sp.arOf [DecidableEq Ob] (E : Sp.Env) (f : Ob) : Int :=
  if f = Ob.ifS then 3 else if f = Ob.equal ∨ f = Ob.cons ∨ f = Ob.implies ∨ f = Ob.plus ∨ f = Ob.minus ∨ f = Ob.less then 2
  else if Ob.isBase f then 1 else match E.dfn f with | some D => (D.params.length : Int) | none => -1
def Sp.arC [DecidableEq Ob] (E : Sp.Env) (n : Ob) (k : Int) (f : Ob) : Int := if f = n then k else Sp.arOf E f
def Sp.areVars [DecidableEq Ob] (l : List Ob) : Bool := l.all Ob.isVar && decide l.Nodup
/-- a list of (x T): the x different variables -/
def Sp.pairsGo [DecidableEq Ob] (E : Sp.Env) : List Ob → List (Ob × Ob) → Option (List (Ob × Ob))
  | [], l => some l
  | p :: ps, l => if Ob.len p = 2 ∧ Ob.isVar (Ob.lft p) ∧ Ob.lk l (Ob.lft p) = none then (match Ob.rdT (Sp.arOf E) (Ob.item p 1) with | some T => Sp.pairsGo E ps (l ++ [(Ob.lft p, T)]) | none => none) else none
def Sp.pairsOf [DecidableEq Ob] (E : Sp.Env) (o : Ob) : Option (List (Ob × Ob)) := if Ob.len o = -1 then none else Sp.pairsGo E (Ob.toList o) []
/-- (f v ..) as an induction wants it: 0, 2 or 3 -/
def Sp.indAsk [DecidableEq Ob] (E : Sp.Env) (c : Ob) : Int :=
  if 1 ≤ Ob.len c ∧ Ob.isName (Ob.lft c) ∧ Sp.areVars (Ob.toList (Ob.rgt c)) then (match E.dfn (Ob.lft c) with | none => 3 | some D => if D.meas.isSome ∧ (D.params.length : Int) = Ob.len (Ob.rgt c) then 0 else 2) else 2
def Sp.useAsk [DecidableEq Ob] (E : Sp.Env) (h : Ob) : Int :=
  if 2 ≤ Ob.len h ∧ Ob.isName (Ob.item h 1) then (match Sp.pairsOf E (Ob.rgt (Ob.rgt h)) with | none => 2 | some ps => match E.thmOf (Ob.item h 1) with | none => 3 | some k => if ps.all (fun p => Ob.has (Ob.parts k.form) p.1) then 0 else 2) else 2
def Sp.offAsk [DecidableEq Ob] (E : Sp.Env) (h : Ob) : Int :=
  if 2 ≤ Ob.len h ∧ (Ob.toList (Ob.rgt h)).all Ob.isName then (if (Ob.toList (Ob.rgt h)).all (fun n => (E.thmOf n).isSome) then 0 else 3) else 2
/-- one hint: 0, 2 or 3 -/
def Sp.hintAsk [DecidableEq Ob] (E : Sp.Env) (h : Ob) (ind off : Bool) : Int :=
  if Ob.len h < 1 then 2 else if Ob.lft h = Ob.induct then (if ind ∨ Ob.len h ≠ 2 then 2 else Sp.indAsk E (Ob.item h 1)) else if Ob.lft h = Ob.use then Sp.useAsk E h
      else if Ob.lft h = Ob.off then (if off then 2 else Sp.offAsk E h) else 2
def Sp.hintsGo [DecidableEq Ob] (E : Sp.Env) : List Ob → Bool → Bool → Int → Int
  | [], _, _, a => a
  | h :: hs, ind, off, a => if Sp.hintAsk E h ind off = 2 then 2 else Sp.hintsGo E hs (ind || Ob.lft h = Ob.induct) (off || Ob.lft h = Ob.off) (if a = 3 then 3 else Sp.hintAsk E h ind off)
def Sp.hintsAsk [DecidableEq Ob] (E : Sp.Env) (l : List Ob) : Int := Sp.hintsGo E l false false 0
def Sp.indOf [DecidableEq Ob] (E : Sp.Env) (l : List Ob) : Option (Sp.Dfn × List Ob) :=
  match l.find? (fun h => Ob.lft h = Ob.induct) with | some h => (match E.dfn (Ob.lft (Ob.item h 1)) with | some D => some (D, Ob.toList (Ob.rgt (Ob.item h 1))) | none => none) | none => none
def Sp.usesOf [DecidableEq Ob] (E : Sp.Env) (l : List Ob) : List (Ob × List (Ob × Ob)) :=
  l.filterMap (fun h => if Ob.lft h = Ob.use then (match E.thmOf (Ob.item h 1), Sp.pairsOf E (Ob.rgt (Ob.rgt h)) with | some k, some ps => some (k.form, ps) | _, _ => none) else none)
def Sp.offsOf [DecidableEq Ob] (l : List Ob) : List Ob := (l.filter (fun h => Ob.lft h = Ob.off)).flatMap (fun h => Ob.toList (Ob.rgt h))
/-! told proofs -/
def Sp.rdAt [DecidableEq Ob] (E : Sp.Env) (o : Ob) (k : Nat) : Option Ob := Ob.rdT (Sp.arOf E) (Ob.item o k)
/-- the value of (value L) -/
def Sp.toldV [DecidableEq Ob] (L : Ob) : Option Ob :=
  if Ob.isCall L && Ob.isBase (Ob.lft L) && (Ob.toList (Ob.rgt L)).all Ob.isConst then (if Ob.lft L = Ob.ifS then some (if Ob.valOf (Ob.item L 1) = Ob.nil then Ob.valOf (Ob.item L 3) else Ob.valOf (Ob.item L 2)) else Ob.base (Ob.lft L) (Ob.valOf (Ob.item L 1)) (Ob.valOf (Ob.item L 2))) else none
def Sp.termsAt [DecidableEq Ob] (E : Sp.Env) (o : Ob) (n : Nat) : Bool := (List.range n).all (fun k => (Sp.rdAt E o (k + 1)).isSome)
def Sp.isForm [DecidableEq Ob] (E : Sp.Env) (o : Ob) : Bool :=
  if Ob.lft o = Ob.taut ∨ Ob.lft o = Ob.same then Ob.len o == 2 && Sp.termsAt E o 1
  else if Ob.lft o = Ob.value then Ob.len o == 2 && (match Sp.rdAt E o 1 with | some L => (Sp.toldV L).isSome | none => false)
  else if Ob.lft o = Ob.first ∨ Ob.lft o = Ob.second ∨ Ob.lft o = Ob.pair then Ob.len o == 3 && Sp.termsAt E o 2
  else if Ob.lft o = Ob.yes ∨ Ob.lft o = Ob.no then Ob.len o == 4 && Sp.termsAt E o 3
  else if Ob.lft o = Ob.defS then Ob.len o == 2 && (E.dfn (Ob.item o 1)).isSome
  else if Ob.lft o = Ob.thm then Ob.len o == 2 && (E.thmOf (Ob.item o 1)).isSome
  else if Ob.lft o = Ob.weak then Ob.len o == 3 && Ob.len (Ob.item o 1) != -1 && (Ob.toList (Ob.item o 1)).all (fun x => (Ob.rdT (Sp.arOf E) x).isSome)
  else if Ob.lft o = Ob.cut then Ob.len o == 4 && (Sp.rdAt E o 1).isSome
  else if Ob.lft o = Ob.inst then decide (2 ≤ Ob.len o) && (Sp.pairsOf E (Ob.rgt (Ob.rgt o))).isSome
  else if Ob.lft o = Ob.swap then Ob.len o == 2
  else if Ob.lft o = Ob.put then Ob.len o == 3
  else if Ob.lft o = Ob.induct then decide (3 ≤ Ob.len o) && (Sp.rdAt E o 1).isSome && Sp.indAsk E (Ob.item o 2) == 0 && (match E.dfn (Ob.lft (Ob.item o 2)) with | some D => Ob.len o == 3 + ((Sp.paths D.body).length : Int) | none => false)
  else false
def Sp.partsOf [DecidableEq Ob] (o : Ob) : List Ob :=
  if Ob.lft o = Ob.weak then [Ob.item o 2] else if Ob.lft o = Ob.cut then [Ob.item o 2, Ob.item o 3] else if Ob.lft o = Ob.inst ∨ Ob.lft o = Ob.swap then [Ob.item o 1]
  else if Ob.lft o = Ob.put then [Ob.item o 1, Ob.item o 2] else if Ob.lft o = Ob.induct then (Ob.toList o).drop 3 else []
def Sp.isNeg [DecidableEq Ob] (y x : Ob) : Bool := if Ob.isCallOf x Ob.not then y = Ob.item x 1 else if Ob.isConst x then y = (if x = Ob.nil then Ob.t else Ob.nil) else Ob.isCallOf y Ob.not && Ob.item y 1 = x
def Sp.fills [DecidableEq Ob] (f : Ob → Sp.M Ob) : List Ob → List Ob → Sp.M (List Ob)
  | [], l => Sp.ret l
  | a :: as, l => Sp.bd (f a) fun x => Sp.fills f as (Sp.putL l x)
def Sp.indParts [DecidableEq Ob] (D : Sp.Dfn) (vs : List Ob) (F : Ob) : List (List (Ob × Bool) × Ob) → List (List Ob) → Sp.M Unit
  | p :: ps, c :: cs => Sp.bd (Sp.indRow D vs F p []) fun w => if c.all (Ob.has w) then Sp.indParts D vs F ps cs else Sp.fail
  | _, _ => Sp.ret ()
def Sp.concl [DecidableEq Ob] (E : Sp.Env) (o : Ob) (cs : List (List Ob)) : Sp.M (List Ob) :=
  let L := (Sp.rdAt E o 1).getD Ob.nil
  let N := (Sp.rdAt E o 2).getD Ob.nil
  let K := (Sp.rdAt E o 3).getD Ob.nil
  let P := cs.getD 0 []
  let Q := cs.getD 1 []
  if Ob.lft o = Ob.taut then Sp.bd (Sp.mkNot L) fun n => Sp.ret (Sp.putL [L] n)
  else if Ob.lft o = Ob.same then Sp.bd (Sp.mk2 Ob.equal L L) fun x => Sp.ret [x]
  else if Ob.lft o = Ob.value then Sp.bd (Sp.pay 3) fun _ => Sp.bd (Sp.mk2 Ob.equal L (Ob.constOf ((Sp.toldV L).getD Ob.nil))) fun x => Sp.ret [x]
  else if Ob.lft o = Ob.first then Sp.bd (Sp.mk2 Ob.cons L N) fun c => Sp.bd (Sp.mk1 Ob.car c) fun a => Sp.bd (Sp.mk2 Ob.equal a L) fun x => Sp.ret [x]
  else if Ob.lft o = Ob.second then Sp.bd (Sp.mk2 Ob.cons L N) fun c => Sp.bd (Sp.mk1 Ob.cdr c) fun a => Sp.bd (Sp.mk2 Ob.equal a N) fun x => Sp.ret [x]
  else if Ob.lft o = Ob.pair then Sp.bd (Sp.mk2 Ob.cons L N) fun c => Sp.bd (Sp.mk1 Ob.consp c) fun x => Sp.ret [x]
  else if Ob.lft o = Ob.yes then Sp.bd (Sp.mkNot L) fun n => Sp.bd (Sp.mk3 Ob.ifS L N K) fun i => Sp.bd (Sp.mk2 Ob.equal i N) fun x => Sp.ret (Sp.putL [n] x)
  else if Ob.lft o = Ob.no then Sp.bd (Sp.mk3 Ob.ifS L N K) fun i => Sp.bd (Sp.mk2 Ob.equal i K) fun x => Sp.ret (Sp.putL [L] x)
  else if Ob.lft o = Ob.defS then (match E.dfn (Ob.item o 1) with | some D => Sp.bd (Sp.mk2 Ob.equal (.pr D.name (Ob.ofList D.params)) D.body) fun x => Sp.ret [x] | none => Sp.fail)
  else if Ob.lft o = Ob.thm then (match E.thmOf (Ob.item o 1) with | some k => Sp.ret [k.form] | none => Sp.fail)
  else if Ob.lft o = Ob.weak then Sp.ret (((Ob.toList (Ob.item o 1)).filterMap (Ob.rdT (Sp.arOf E))).foldl Sp.putL P)
  else if Ob.lft o = Ob.cut then (if Ob.has P L && Q.any (fun y => Sp.isNeg y L) then Sp.ret ((P.filter (· ≠ L) ++ Q.filter (fun y => !Sp.isNeg y L)).foldl Sp.putL []) else Sp.fail)
  else if Ob.lft o = Ob.inst then Sp.fills (Sp.fill (Ob.lkD ((Sp.pairsOf E (Ob.rgt (Ob.rgt o))).getD []))) P []
  else if Ob.lft o = Ob.swap then (match P with | e :: l => if Ob.isCallOf e Ob.equal then Sp.bd (Sp.mk2 Ob.equal (Ob.item e 2) (Ob.item e 1)) fun x => Sp.ret (l.foldl Sp.putL [x]) else Sp.fail | [] => Sp.fail)
  else if Ob.lft o = Ob.put then (match P with | e :: l => if Ob.isCallOf e Ob.equal then Sp.bd (Sp.fills (fun a => Sp.big (Ob.rpM (Ob.item e 1) (Ob.item e 2) false a) (Ob.csM false a).toNat) Q []) fun x => Sp.ret (l.foldl Sp.putL x) else Sp.fail | [] => Sp.fail)
  else match E.dfn (Ob.lft (Ob.item o 2)) with | some D => Sp.bd (Sp.indParts D (Ob.toList (Ob.rgt (Ob.item o 2))) L (Sp.paths D.body) cs) fun _ => Sp.ret [L] | none => Sp.fail
def Sp.pfParts [DecidableEq Ob] (r : Ob → Sp.M (List Ob)) : List Ob → Sp.M (List (List Ob))
  | [] => Sp.ret []
  | a :: l => Sp.bd (r a) fun c => Sp.bd (Sp.pfParts r l) fun cs => Sp.ret (c :: cs)
/-- the clause of a PROOF -/
def Sp.pf [DecidableEq Ob] (E : Sp.Env) : Nat → Ob → Sp.M (List Ob)
  | 0, _ => Sp.fail
  | d + 1, o => Sp.bd (Sp.tick) fun _ => if Sp.isForm E o then Sp.bd (Sp.pfParts (Sp.pf E d) (Sp.partsOf o)) fun cs => Sp.bd (Sp.concl E o cs) fun l => Sp.bounded l else Sp.fail
/-! a house (definitions, theorems, what was taken), and what a command does -/
abbrev Sp.Hs := List Sp.Dfn × List Sp.Thm × List Int
abbrev Sp.Hs.env (H : Sp.Hs) (m : List Ob) : Sp.Env := (H.1, H.2.1, m)
/-- what comes of a run: the house, STEPS made, clauses LEFT, whether something was PROVED -/
abbrev Sp.Res := Sp.Hs × Int × Nat × Bool
def Sp.nothing [DecidableEq Ob] (H : Sp.Hs) : Sp.Res := (H, 0, 0, false)
def Sp.addThm [DecidableEq Ob] (H : Sp.Hs) (n F : Ob) (k : Int) : Sp.Hs := (H.1, H.2.1 ++ [(n, F, k, Sp.ruleOf F)], H.2.2 ++ [k])
def Sp.addDef [DecidableEq Ob] (H : Sp.Hs) (D : Sp.Dfn) : Sp.Hs := (H.1 ++ [D], H.2.1, H.2.2 ++ [1])
def Sp.setOn [DecidableEq Ob] (b : Bool) (R : Sp.Rul) : Sp.Rul := (R.1, R.2.1, R.2.2.1, R.2.2.2.1, R.2.2.2.2.1, b)
def Sp.turnOn [DecidableEq Ob] (n : Ob) (b : Bool) : List Sp.Thm → List Sp.Thm
  | [] => []
  | k :: ks => if k.1 = n then (k.1, k.2.1, k.2.2.1, k.2.2.2.map (Sp.setOn b)) :: ks else k :: Sp.turnOn n b ks
/-- clauses to prove, and what is taken if none is LEFT -/
def Sp.Proves [DecidableEq Ob] (E : Sp.Env) (H H' : Sp.Hs) (fuel : Nat) (m : Sp.M (List Sp.Cla)) (r : Sp.Res) : Prop :=
  match m (fuel, 0) with
  | .error _ s => r = (H, (fuel : Int) - (s.1 : Int), 0, false)
  | .ok cl s => ∃ l s', Sp.PvEnd E (cl, [], s) (l, s') ∧ r = (match l with | none => (H, (fuel : Int) - (s'.1 : Int), 0, false) | some [] => (H', (fuel : Int) - (s'.1 : Int), 0, true) | some (a :: l) => (H, (fuel : Int) - (s'.1 : Int), (a :: l).length, false))
def Sp.ranM [DecidableEq Ob] {α : Type} (H : Sp.Hs) (fuel : Nat) (f : α → Sp.Hs) (m : Sp.M α) : Sp.Res :=
  match m (fuel, 0) with | .error _ s => (H, (fuel : Int) - (s.1 : Int), 0, false) | .ok a s => (f a, (fuel : Int) - (s.1 : Int), 0, false)
def Sp.Ran [DecidableEq Ob] (H : Sp.Hs) (fuel : Nat) (o : Ob) (r : Sp.Res) : Prop :=
  if Ob.lft o = Ob.eval then
    (match (if Ob.len o = 2 then Sp.rdAt (H.env []) o 1 else none) with
     | some T => if (Ob.parts T).any Ob.isVar then r = Sp.nothing H else
        (match Sp.ev (H.env []) 300 (fun x => x) T (fuel, 1000000, 0) with | .ok _ s => r = (H, (fuel : Int) - (s.1 : Int), 0, false) | .error _ s => r = (H, (fuel : Int) - (s.1 : Int), 0, false))
     | none => r = Sp.nothing H)
  else if Ob.lft o = Ob.simplify then (match (if Ob.len o = 2 then Sp.rdAt (H.env []) o 1 else none) with | some T => r = Sp.ranM H fuel (fun _ => H) (Sp.rw (H.env []) 60 [] T false) | none => r = Sp.nothing H)
  else if Ob.lft o = Ob.prove ∨ Ob.lft o = Ob.defthm then
    let k : Nat := if Ob.lft o = Ob.defthm then 2 else 1
    let hs := (Ob.toList o).drop (k + 1)
    (match (if (k : Int) < Ob.len o ∧ (k = 2 → Ob.isName (Ob.item o 1)) ∧ Sp.hintsAsk (H.env []) hs ≠ 2 then Sp.rdAt (H.env []) o k else none) with
     | some F => if Sp.hintsAsk (H.env []) hs = 3 ∨ k = 2 ∧ ((Sp.Env.thmOf (H.env []) (Ob.item o 1)).isSome ∨ H.2.1.length = 60) then r = Sp.nothing H
        else Sp.Proves (H.env (Sp.offsOf hs)) H (if k = 2 then Sp.addThm H (Ob.item o 1) F 2 else H) fuel (Sp.thmCl (H.env []) F (Sp.indOf (H.env []) hs) (Sp.usesOf (H.env []) hs)) r
     | none => r = Sp.nothing H)
  else if Ob.lft o = Ob.defun then
    let n := Ob.item o 1
    let xs := Ob.toList (Ob.item o 2)
    (match (if (Ob.len o = 4 ∨ Ob.len o = 5) ∧ Ob.isName n ∧ Ob.len (Ob.item o 2) ≠ -1 ∧ xs.length ≤ 6 ∧ Sp.areVars xs then Ob.rdT (Sp.arC (H.env []) n xs.length) (Ob.item o 3) else none) with
     | some B =>
        (match (if Ob.len o = 5 then (Ob.rdT (Sp.arC (H.env []) n xs.length) (Ob.item o 4)).map some else some none) with
         | some m => if (Sp.hasCall B n ↔ m.isSome) ∧ ((Ob.parts B).all (fun x => !Ob.isVar x || Ob.has xs x)) ∧ (∀ M, M ∈ m → (Ob.parts M).all (fun x => !Ob.isVar x || Ob.has xs x) ∧ ¬ Sp.hasCall M n) ∧ Sp.flat n B then
             (if (Sp.Env.dfn (H.env []) n).isSome ∨ H.1.length = 40 then r = Sp.nothing H
              else (match m with
                | none => r = (Sp.addDef H (n, xs, B, none), 0, 0, false)
                | some M => Sp.Proves (H.env []) H (Sp.addDef H (n, xs, B, some M)) fuel (Sp.measAll xs n M (Sp.paths B)) r))
            else r = Sp.nothing H
         | none => r = Sp.nothing H)
     | none => r = Sp.nothing H)
  else if Ob.lft o = Ob.check then
    (match (if Ob.len o = 4 ∧ Ob.isName (Ob.item o 1) then Sp.rdAt (H.env []) o 2 else none) with
     | some F => if (Sp.Env.thmOf (H.env []) (Ob.item o 1)).isSome ∨ H.2.1.length = 60 then r = Sp.nothing H else
        r = Sp.ranM H fuel (fun l => if l.all (· = F) then Sp.addThm H (Ob.item o 1) F 3 else H) (Sp.pf (H.env []) 40 (Ob.item o 3))
     | none => r = Sp.nothing H)
  else if Ob.lft o = Ob.on ∨ Ob.lft o = Ob.off then
    (if Ob.len o = 2 ∧ Ob.isName (Ob.item o 1) ∧ ((Sp.Env.thmOf (H.env []) (Ob.item o 1)).any (fun k => k.rule.isSome)) then r = ((H.1, Sp.turnOn (Ob.item o 1) (Ob.lft o = Ob.on) H.2.1, H.2.2), 0, 0, false) else r = Sp.nothing H)
  else if Ob.lft o = Ob.undo then
    (if Ob.len o = 1 ∧ H.2.2 ≠ [] then r = ((if H.2.2.getLast? = some 1 then H.1.dropLast else H.1, if H.2.2.getLast? = some 1 then H.2.1 else H.2.1.dropLast, H.2.2.dropLast), 0, 0, false) else r = Sp.nothing H)
  else r = Sp.nothing H
