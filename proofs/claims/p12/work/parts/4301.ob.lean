-- deps: 430
def Ob.has [DecidableEq Ob] (l : List Ob) (o : Ob) : Bool := l.any (fun y => decide (y = o))
theorem Ob.has_iff [DecidableEq Ob] {l : List Ob} {o : Ob} : Ob.has l o = true ↔ o ∈ l := by
  unfold Ob.has
  rw [List.any_eq_true]
  exact ⟨fun ⟨x, hx, e⟩ => of_decide_eq_true e ▸ hx, fun h => ⟨o, h, decide_eq_true rfl⟩⟩
def Ob.isVar [DecidableEq Ob] (o : Ob) : Bool := Ob.isSym o && o ≠ Ob.nil && o ≠ Ob.t
def Ob.isQuoted [DecidableEq Ob] : Ob → Bool | .op a (.op _ c) => a = Ob.quote && c = Ob.nil | _ => false
def Ob.isConst [DecidableEq Ob] : Ob → Bool | .op a _ => a = Ob.quote | o => Ob.isNat o || o = Ob.nil || o = Ob.t
def Ob.isCall [DecidableEq Ob] : Ob → Bool | .op a _ => a ≠ Ob.quote | _ => false
def Ob.isCallOf [DecidableEq Ob] (o f : Ob) : Bool := match o with | .op a _ => a = f | _ => false
/-- how many items a list has; -1 of what is none -/
def Ob.len [DecidableEq Ob] : Ob → Int | .op _ b => if Ob.len b = -1 then -1 else Ob.len b + 1 | o => if o = Ob.nil then 0 else -1
def Ob.constOf [DecidableEq Ob] (o : Ob) : Ob := if Ob.isNat o || o = Ob.nil || o = Ob.t then o else .pr Ob.quote (.pr o Ob.nil)
/-- SIZE: of a term (false), of a row of terms (true) -/
def Ob.szM [DecidableEq Ob] : Bool → Ob → Int
  | true, .op a b => Ob.szM false a + Ob.szM true b
  | true, .var _ => 0
  | false, .op a b => if a = Ob.quote then 1 else 1 + Ob.szM true b
  | false, .var _ => 1
def Ob.sz [DecidableEq Ob] (o : Ob) : Int := Ob.szM false o
/-- a term with others for its variables -/
def Ob.sbM [DecidableEq Ob] (s : Ob → Ob) : Bool → Ob → Ob
  | true, .op a b => .pr (Ob.sbM s false a) (Ob.sbM s true b)
  | true, .var x => .var x
  | false, .op a b => if a = Ob.quote then .pr a b else .pr a (Ob.sbM s true b)
  | false, .var x => if Ob.isVar (.var x) then s (.var x) else .var x
/-- a term with one put for another -/
def Ob.rpM [DecidableEq Ob] (x y : Ob) : Bool → Ob → Ob
  | true, .op a b => .pr (Ob.rpM x y false a) (Ob.rpM x y true b)
  | true, .var z => .var z
  | false, .op a b => if Ob.pr a b = x then y else if a = Ob.quote then .pr a b else .pr a (Ob.rpM x y true b)
  | false, .var z => if .var z = x then y else .var z
/-- how many pairs making it anew takes -/
def Ob.csM [DecidableEq Ob] : Bool → Ob → Int
  | true, .op a b => 1 + Ob.csM false a + Ob.csM true b
  | true, .var _ => 0
  | false, .op a b => if a = Ob.quote then 0 else 1 + Ob.csM true b
  | false, .var _ => 0
/-- an object of a TEXT as a term; ar: how many terms a function takes, -1 of none -/
def Ob.rdM [DecidableEq Ob] (ar : Ob → Int) : Bool → Ob → Option Ob
  | true, .op a b => match Ob.rdM ar false a, Ob.rdM ar true b with | some x, some y => some (.pr x y) | _, _ => none
  | true, .var x => some (.var x)
  | false, .op a b => if a = Ob.quote then (if Ob.isQuoted (.pr a b) then some (Ob.constOf (Ob.lft b)) else none)
      else if ar a = -1 ∨ Ob.len b ≠ ar a then none else match Ob.rdM ar true b with | some y => some (.pr a y) | none => none
  | false, .var x => some (.var x)
def Ob.rdT [DecidableEq Ob] (ar : Ob → Int) (o : Ob) : Option Ob := match Ob.rdM ar false o with | some x => if Ob.sz x ≤ 120 then some x else none | none => none
/-- the term and all terms in it, from the left -/
def Ob.ptM [DecidableEq Ob] : Bool → Ob → List Ob
  | true, .op a b => Ob.ptM false a ++ Ob.ptM true b
  | true, .var _ => []
  | false, .op a b => if a = Ob.quote then [.pr a b] else .pr a b :: Ob.ptM true b
  | false, .var x => [.var x]
def Ob.parts [DecidableEq Ob] (o : Ob) : List Ob := Ob.ptM false o
def Ob.isBool [DecidableEq Ob] (o : Ob) : Bool := o = Ob.t || o = Ob.nil || Ob.isCallOf o Ob.equal || Ob.isCallOf o Ob.implies || Ob.isCallOf o Ob.less || Ob.isCallOf o Ob.consp || Ob.isCallOf o Ob.natp || Ob.isCallOf o Ob.symbolp || Ob.isCallOf o Ob.not
/-- what a term is: bound to a row of terms -/
def Ob.lk [DecidableEq Ob] : List (Ob × Ob) → Ob → Option Ob | [], _ => none | (x, y) :: l, o => if x = o then some y else Ob.lk l o
def Ob.lkD [DecidableEq Ob] (l : List (Ob × Ob)) (o : Ob) : Ob := (Ob.lk l o).getD o
/-- matching, from the left -/
def Ob.mtM [DecidableEq Ob] : Bool → Ob → Ob → List (Ob × Ob) → Option (List (Ob × Ob))
  | true, .op a b, .op c d, l => match Ob.mtM false a c l with | some l' => Ob.mtM true b d l' | none => none
  | true, _, _, l => some l
  | false, .op a b, y, l => if a = Ob.quote then (if Ob.pr a b = y then some l else none) else if Ob.isCallOf y a then Ob.mtM true b (Ob.rgt y) l else none
  | false, .var z, y, l => if Ob.isVar (.var z) then (match Ob.lk l (.var z) with | some w => if w = y then some l else none | none => some ((.var z, y) :: l)) else if .var z = y then some l else none
def Ob.mt [DecidableEq Ob] (p o : Ob) : Option (List (Ob × Ob)) := Ob.mtM false p o []
/-- a natural's digits -/
def Ob.dg [DecidableEq Ob] : Nat → Nat → List Int | 0, _ => [] | k + 1, n => if n < 10 then [48 + (n : Int)] else Ob.dg k (n / 10) ++ [48 + ((n % 10 : Nat) : Int)]
def Ob.atomT [DecidableEq Ob] : Ob → List Int | .var x => if x % 2 = 0 then Ob.dg 20 (x / 2) else Ob.dec (x / 2) | _ => []
/-- TOLD: an object (false), what comes behind an item of a list (true) -/
def Ob.tlM [DecidableEq Ob] : Bool → Ob → List Int
  | false, .op a b => match b with
    | .op x c => if a = Ob.quote ∧ c = Ob.nil then 39 :: Ob.tlM false x else 40 :: (Ob.tlM false a ++ Ob.tlM true (.op x c))
    | .var y => 40 :: (Ob.tlM false a ++ Ob.tlM true (.var y))
  | false, .var x => Ob.atomT (.var x)
  | true, .op a b => 32 :: (Ob.tlM false a ++ Ob.tlM true b)
  | true, .var x => if .var x = Ob.nil then [41] else [32, 46, 32] ++ Ob.atomT (.var x) ++ [41]
def Ob.told [DecidableEq Ob] (o : Ob) : List Int := Ob.tlM false o
def Ob.lowL [DecidableEq Ob] : List Int → List Int → Bool
  | [], [] => false | [], _ :: _ => true | _ :: _, [] => false
  | x :: l, y :: m => if x = y then Ob.lowL l m else decide (x < y)
def Ob.smaller [DecidableEq Ob] (a b : Ob) : Bool := Ob.lowL ((Ob.told a).take 200) ((Ob.told b).take 200)
def Ob.isBase [DecidableEq Ob] (f : Ob) : Bool := f = Ob.ifS || f = Ob.equal || f = Ob.cons || f = Ob.implies || f = Ob.plus || f = Ob.minus || f = Ob.less || f = Ob.consp || f = Ob.car || f = Ob.cdr || f = Ob.natp || f = Ob.symbolp || f = Ob.not || f = Ob.height
def Ob.reserved [DecidableEq Ob] (f : Ob) : Bool := f = Ob.nil || f = Ob.t || f = Ob.quote || Ob.isBase f
def Ob.isName [DecidableEq Ob] (f : Ob) : Bool := Ob.isSym f && !Ob.reserved f
/-- the value of a BASE function; none: TOO GREAT -/
def Ob.base [DecidableEq Ob] (f a b : Ob) : Option Ob :=
  if f = Ob.equal then some (Ob.tr (a = b))
  else if f = Ob.cons then some (.pr a b)
  else if f = Ob.implies then some (Ob.tr (a = Ob.nil || b ≠ Ob.nil))
  else if f = Ob.plus then (if 4611686018427387903 < Ob.num a + Ob.num b then none else some (.nat (Ob.num a + Ob.num b)))
  else if f = Ob.minus then some (.nat (if Ob.num b < Ob.num a then Ob.num a - Ob.num b else 0))
  else if f = Ob.less then some (Ob.tr (decide (Ob.num a < Ob.num b)))
  else if f = Ob.consp then some (Ob.tr (Ob.isPr a))
  else if f = Ob.car then some (Ob.lft a)
  else if f = Ob.cdr then some (Ob.rgt a)
  else if f = Ob.natp then some (Ob.tr (Ob.isNat a))
  else if f = Ob.symbolp then some (Ob.tr (Ob.isSym a))
  else if f = Ob.height then some (.nat (Ob.hgt a))
  else some (Ob.tr (a = Ob.nil))
