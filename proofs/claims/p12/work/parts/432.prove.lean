-- deps: 4311
/-! what both do: clauses, proving, the clauses of defun and defthm, rules -/
def Sp.putL [DecidableEq Ob] (l : List Ob) (o : Ob) : List Ob := if Ob.has l o then l else l ++ [o]
def Sp.szL [DecidableEq Ob] : List Ob → Int | [] => 0 | a :: l => Ob.sz a + Sp.szL l
def Sp.bnd [DecidableEq Ob] (l : List Ob) : Bool := decide (l.length ≤ 30) && decide (Sp.szL l ≤ 400)
def Sp.bounded [DecidableEq Ob] (l : List Ob) : Sp.M (List Ob) := if Sp.bnd l then Sp.ret l else Sp.fail
/-- a clause: literals, rounds -/
abbrev Sp.Cla := List Ob × Nat
def Sp.plainC [DecidableEq Ob] (l : List Ob) : Bool := l.any (fun x => (Ob.isConst x && x ≠ Ob.nil) || l.any (fun y => Ob.isCallOf y Ob.not && Ob.item y 1 = x))
/-- what a round makes of a clause: none: PROVED; two; LEFT; again -/
abbrev Sp.Out := Option ((Sp.Cla × Sp.Cla) ⊕ (Sp.Cla ⊕ Sp.Cla))
def Sp.nots [DecidableEq Ob] : List Ob → Sp.M (List Ob)
  | [] => Sp.ret []
  | a :: l => Sp.bd (Sp.mkNot a) fun x => Sp.bd (Sp.pay 1) fun _ => Sp.bd (Sp.nots l) fun xs => Sp.ret (x :: xs)
def Sp.splits [DecidableEq Ob] (v : Ob) : Bool := Ob.isCallOf v Ob.ifS || Ob.isCallOf v Ob.not && Ob.isCallOf (Ob.item v 1) Ob.ifS
def Sp.ifIn [DecidableEq Ob] (v : Ob) : Ob := if Ob.isCallOf v Ob.not then Ob.item v 1 else v
def Sp.splitC [DecidableEq Ob] (pre post : List Ob) (v : Ob) (rounds : Nat) : Sp.M Sp.Out :=
  Sp.bd ((if Ob.isCallOf v Ob.not then Sp.mkNot (Ob.item (Sp.ifIn v) 2) else Sp.ret (Ob.item (Sp.ifIn v) 2))) fun b => Sp.bd ((if Ob.isCallOf v Ob.not then Sp.mkNot (Ob.item (Sp.ifIn v) 3) else Sp.ret (Ob.item (Sp.ifIn v) 3))) fun c =>
  Sp.bd (Sp.mkNot (Ob.item (Sp.ifIn v) 1)) fun a => Sp.bd (Sp.bounded ((pre ++ [a, b] ++ post).foldl Sp.putL [])) fun x => Sp.bd (Sp.bounded ((pre ++ [Ob.item (Sp.ifIn v) 1, c] ++ post).foldl Sp.putL [])) fun y =>
  Sp.ret (some (.inl ((x, rounds + 1), (y, rounds + 1))))
def Sp.roundGo [DecidableEq Ob] (E : Sp.Env) (rounds : Nat) : Nat → List Ob → List Ob → Bool → Sp.M Sp.Out
  | _, pre, [], changed => if !changed then Sp.ret (some (.inr (.inl (pre, rounds + 1)))) else if 400 < Sp.szL pre then Sp.fail else Sp.ret (some (.inr (.inr (pre, rounds + 1))))
  | 0, _, _ :: _, _ => Sp.fail
  | n + 1, pre, x :: post, changed => Sp.bd (Sp.nots (pre ++ post)) fun ctx => Sp.bd (Sp.rw E 60 ctx x true) fun v =>
    if v = Ob.t then Sp.ret none
    else if Sp.splits v then Sp.splitC pre post v rounds
    else if v = Ob.nil then Sp.roundGo E rounds n pre post true
    else if v = x then Sp.roundGo E rounds n (pre ++ [x]) post changed
    else if Ob.has pre v then Sp.roundGo E rounds n pre post true
    else Sp.roundGo E rounds n (pre ++ [v]) (post.filter (· ≠ v)) true
/-- what is TO PROVE: clauses that wait, those LEFT, STEPS -/
abbrev Sp.Pv := List Sp.Cla × List Sp.Cla × Sp.Wk
/-- more, or the end: those LEFT, or none: a FAULT OF WORK -/
def Sp.pvStep [DecidableEq Ob] (E : Sp.Env) (p : Sp.Pv) : Sp.Pv ⊕ (Option (List Sp.Cla) × Sp.Wk) :=
  match p.1 with
  | [] => .inr (some p.2.1, p.2.2)
  | c :: ws => if 20 ≤ p.2.1.length then .inr (some p.2.1, p.2.2)
    else if Sp.plainC c.1 then .inl (ws, p.2.1, p.2.2)
    else if c.2 = 6 then .inl (ws, p.2.1 ++ [c], p.2.2)
    else match Sp.roundGo E c.2 31 [] c.1 false p.2.2 with
      | .ok none s => .inl (ws, p.2.1, s)
      | .ok (some (.inl (a, b))) s => .inl (a :: b :: ws, p.2.1, s)
      | .ok (some (.inr (.inl d))) s => .inl (ws, p.2.1 ++ [d], s)
      | .ok (some (.inr (.inr d))) s => .inl (d :: ws, p.2.1, s)
      | .error _ s => .inr (none, s)
def Sp.pvRun [DecidableEq Ob] (E : Sp.Env) : Nat → Sp.Pv → Option (Option (List Sp.Cla) × Sp.Wk)
  | 0, _ => none
  | n + 1, p => match Sp.pvStep E p with | .inl q => Sp.pvRun E n q | .inr r => some r
/-- how it ends -/
def Sp.PvEnd [DecidableEq Ob] (E : Sp.Env) (p : Sp.Pv) (r : Option (List Sp.Cla) × Sp.Wk) : Prop := ∃ n, Sp.pvRun E n p = some r
theorem Sp.pvRun_mono [DecidableEq Ob] {E : Sp.Env} : ∀ (n m : Nat) (p : Sp.Pv) (r : Option (List Sp.Cla) × Sp.Wk), Sp.pvRun E n p = some r → n ≤ m → Sp.pvRun E m p = some r
  | 0, _, _, _, h, _ => by cases h
  | n + 1, 0, _, _, _, h => by omega
  | n + 1, m + 1, p, r, h, hl => by
    have h : (match Sp.pvStep E p with | .inl q => Sp.pvRun E n q | .inr r => some r) = some r := h
    show (match Sp.pvStep E p with | .inl q => Sp.pvRun E m q | .inr r => some r) = some r
    cases e : Sp.pvStep E p with
    | inl q => rw [e] at h; exact Sp.pvRun_mono n m q r h (by omega)
    | inr q => rw [e] at h; exact h
theorem Sp.PvEnd.det [DecidableEq Ob] {E : Sp.Env} {p : Sp.Pv} {r r' : Option (List Sp.Cla) × Sp.Wk} (h : Sp.PvEnd E p r) (h' : Sp.PvEnd E p r') : r = r' := by
  obtain ⟨n, h⟩ := h
  obtain ⟨m, h'⟩ := h'
  have a := Sp.pvRun_mono n (n + m) p r h (by omega)
  have b := Sp.pvRun_mono m (n + m) p r' h' (by omega)
  exact Option.some.inj (a.symm.trans b)
theorem Sp.PvEnd.of [DecidableEq Ob] {E : Sp.Env} {p : Sp.Pv} {r : Option (List Sp.Cla) × Sp.Wk} (h : Sp.pvStep E p = .inr r) : Sp.PvEnd E p r := ⟨1, by show (match Sp.pvStep E p with | .inl q => Sp.pvRun E 0 q | .inr r => some r) = _; rw [h]⟩
theorem Sp.PvEnd.more [DecidableEq Ob] {E : Sp.Env} {p q : Sp.Pv} {r : Option (List Sp.Cla) × Sp.Wk} (h : Sp.pvStep E p = .inl q) (g : Sp.PvEnd E q r) : Sp.PvEnd E p r := by
  obtain ⟨n, g⟩ := g
  exact ⟨n + 1, by show (match Sp.pvStep E p with | .inl q => Sp.pvRun E n q | .inr r => some r) = _; rw [h]; exact g⟩
/-! PATHS -/
def Sp.paths [DecidableEq Ob] : Ob → List (List (Ob × Bool) × Ob)
  | .op f (.op q (.op b (.op c n))) => if f = Ob.ifS then (Sp.paths b).map (fun p => ((q, false) :: p.1, p.2)) ++ (Sp.paths c).map (fun p => ((q, true) :: p.1, p.2)) else [([], .op f (.op q (.op b (.op c n))))]
  | o => [([], o)]
def Sp.hasCall [DecidableEq Ob] (o f : Ob) : Bool := (Ob.parts o).any (fun x => Ob.isCallOf x f)
def Sp.callsIn [DecidableEq Ob] (o f : Ob) : List Ob := (Ob.parts o).filter (fun x => Ob.isCallOf x f)
def Sp.flat [DecidableEq Ob] (f body : Ob) : Bool := (Sp.paths body).all (fun p => p.1.all (fun q => !Sp.hasCall q.1 f) && (Sp.callsIn p.2 f).all (fun c => (Ob.toList (Ob.rgt c)).all (fun a => !Sp.hasCall a f)))
def Sp.rulersGo [DecidableEq Ob] (s : Ob → Ob) : List (Ob × Bool) → List Ob → Sp.M (List Ob)
  | [], l => Sp.ret l
  | (q, third) :: ps, l => Sp.bd (Sp.fill s q) fun x => Sp.bd ((if third then Sp.mkNot x else Sp.ret x)) fun r => Sp.bd (Sp.mkNot r) fun y => Sp.rulersGo s ps (Sp.putL l y)
/-- the clauses that say that the measure falls -/
def Sp.measGo [DecidableEq Ob] (xs : List Ob) (m : Ob) (rs : List (Ob × Bool)) : List Ob → Sp.M (List Sp.Cla)
  | [] => Sp.ret []
  | c :: cs => Sp.bd (Sp.rulersGo (fun x => x) rs []) fun l => Sp.bd (Sp.fill (Ob.lkD (xs.zip (Ob.toList (Ob.rgt c)))) m) fun m2 => Sp.bd (Sp.mk2 Ob.less m2 m) fun y =>
      Sp.bd (Sp.bounded (Sp.putL l y)) fun l => Sp.bd (Sp.measGo xs m rs cs) fun cl => Sp.ret ((l, 0) :: cl)
def Sp.measAll [DecidableEq Ob] (xs : List Ob) (f m : Ob) : List (List (Ob × Bool) × Ob) → Sp.M (List Sp.Cla)
  | [] => Sp.ret []
  | p :: ps => Sp.bd (Sp.measGo xs m p.1 (Sp.callsIn p.2 f)) fun a => Sp.bd (Sp.measAll xs f m ps) fun b => Sp.ret (a ++ b)
def Sp.hypsGo [DecidableEq Ob] (D : Sp.Dfn) (vs : List Ob) (F : Ob) : List Ob → List Ob → Sp.M (List Ob)
  | [], l => Sp.ret l
  | c :: cs, l => Sp.bd (Sp.rwArgs (fun a => Sp.fill (Ob.lkD (D.params.zip vs)) a) (Ob.toList (Ob.rgt c))) fun as => Sp.bd (Sp.fill (Ob.lkD (vs.zip as)) F) fun x => Sp.bd (Sp.mkNot x) fun y => Sp.hypsGo D vs F cs (Sp.putL l y)
/-- the clause that induct has for a PATH, behind what is there -/
def Sp.indRow [DecidableEq Ob] (D : Sp.Dfn) (vs : List Ob) (F : Ob) (p : List (Ob × Bool) × Ob) (l : List Ob) : Sp.M (List Ob) :=
  Sp.bd (Sp.rulersGo (Ob.lkD (D.params.zip vs)) p.1 l) fun l => Sp.bd (Sp.hypsGo D vs F (Sp.callsIn p.2 D.name) l) fun l => Sp.bounded (Sp.putL l F)
def Sp.usesGo [DecidableEq Ob] : List (Ob × List (Ob × Ob)) → List Ob → List Ob → Sp.M (List Ob)
  | [], l, _ => Sp.ret l
  | (F, ps) :: us, l, xs => Sp.bd (Sp.fillU xs (Ob.lkD ps) F) fun x => Sp.bd (Sp.mkNot x) fun y => Sp.usesGo us (Sp.putL l y) (x :: xs)
def Sp.indAll [DecidableEq Ob] (D : Sp.Dfn) (vs : List Ob) (F : Ob) (us : List Ob) : List (List (Ob × Bool) × Ob) → Sp.M (List Sp.Cla)
  | [] => Sp.ret []
  | p :: ps => Sp.bd (Sp.indRow D vs F p us) fun l => Sp.bd (Sp.indAll D vs F us ps) fun cl => Sp.ret ((l, 0) :: cl)
def Sp.thmCl [DecidableEq Ob] (E : Sp.Env) (F : Ob) (ind : Option (Sp.Dfn × List Ob)) (uses : List (Ob × List (Ob × Ob))) : Sp.M (List Sp.Cla) :=
  Sp.bd (Sp.usesGo uses [] []) fun us => match ind with
    | none => Sp.bd (Sp.bounded (Sp.putL us F)) fun l => Sp.ret [(l, 0)]
    | some (D, vs) => Sp.indAll D vs F us (Sp.paths D.body)
/-! a theorem's RULE -/
def Sp.hypIn [DecidableEq Ob] : Ob → List Ob
  | .op f (.op a (.op b (.op c n))) => if f = Ob.ifS ∧ c = Ob.nil then Sp.hypIn a ++ Sp.hypIn b else [.op f (.op a (.op b (.op c n)))]
  | o => [o]
def Sp.ruleGo [DecidableEq Ob] : Ob → List Ob → List Ob × Ob
  | .op f (.op h (.op c n)), l => if f = Ob.implies then Sp.ruleGo c (l ++ Sp.hypIn h) else (l, .op f (.op h (.op c n)))
  | o, l => (l, o)
def Sp.covers [DecidableEq Ob] (l o : Ob) : Bool := (Ob.parts o).all (fun x => !Ob.isVar x || Ob.has (Ob.parts l) x)
def Sp.turns [DecidableEq Ob] (l r : Ob) : Bool := match Ob.mt l r with | some b => b.all (fun p => Ob.isVar p.2) && decide ((b.map (·.2)).Nodup) | none => false
/-- the rule of hypotheses h, left l, right r; e: an equality, n: a negation -/
def Sp.ruleAt [DecidableEq Ob] (h : List Ob) (e n : Bool) (l r : Ob) : Option Sp.Rul :=
  if Ob.isCall l && Ob.lft l ≠ Ob.ifS && Ob.lft l ≠ Ob.not && Ob.lft l ≠ Ob.implies && l ≠ r && Sp.covers l r && h.all (Sp.covers l) then
    some (l, r, h, !e && !n && !Ob.isBool l, Sp.turns l r, true) else none
def Sp.ruleOn [DecidableEq Ob] (h : List Ob) (o : Ob) : Option Sp.Rul :=
  Sp.ruleAt h (Ob.isCallOf o Ob.equal) (Ob.isCallOf o Ob.not) (if Ob.isCallOf o Ob.equal || Ob.isCallOf o Ob.not then Ob.item o 1 else o) (if Ob.isCallOf o Ob.equal then Ob.item o 2 else if Ob.isCallOf o Ob.not then Ob.nil else Ob.t)
def Sp.ruleOf [DecidableEq Ob] (F : Ob) : Option Sp.Rul := Sp.ruleOn (Sp.ruleGo F []).1 (Sp.ruleGo F []).2
