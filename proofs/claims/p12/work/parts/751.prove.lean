-- deps: 750
/-! the class: proving -/
def f8Qn (k : Nat) : Bool := f8Pn k || decide (k = 16)
theorem f8Pn_Q [DecidableEq Ob] : ∀ k, f8Qn k = false → f8Pn k = false := fun k h => by unfold f8Qn at h; exact (Bool.or_eq_false_iff.mp h).1
/-- clauses that wait, the first one first -/
def StkC [DecidableEq Ob] (v : iST) (E : Sp.Env) : List Sp.Cla → Prop
  | [] => True
  | d :: ws => ClA v E (120 + (ws.length : Int)) d ∧ ws.length ≤ d.2 ∧ d.2 ≤ 6 ∧ StkC v E ws
def GivC [DecidableEq Ob] (v : iST) (E : Sp.Env) (k : Int) : List Sp.Cla → Prop
  | [] => v.1 13 = k
  | d :: gs => k < 120 ∧ ClA v E k d ∧ d.2 = 0 ∧ k < v.1 13 ∧ GivC v E (k + 1) gs
def LfOC [DecidableEq Ob] (v : iST) (E : Sp.Env) (ls : List Sp.Cla) : Prop := v.1 15 = (ls.length : Int) ∧ ∀ (i : Nat) (d : Sp.Cla), ls[i]? = some d → ClA v E (130 + (i : Int)) d
def fRd (r : Nat) : Int := if r = 0 then 127 else if r = 1 then 63 else if r = 2 then 31 else if r = 3 then 15 else if r = 4 then 7 else if r = 5 then 3 else 1
theorem fRd_step [DecidableEq Ob] : ∀ r, r < 6 → 1 + 2 * fRd (r + 1) ≤ fRd r := by decide
theorem fRd_pos [DecidableEq Ob] (r : Nat) : 1 ≤ fRd r := by
  unfold fRd
  repeat' split
  all_goals decide
def potC [DecidableEq Ob] : List Sp.Cla → Int | [] => 0 | d :: ws => fRd d.2 + potC ws
theorem potC_pos [DecidableEq Ob] : ∀ ws : List Sp.Cla, 0 ≤ potC ws
  | [] => Int.le_refl _
  | d :: ws => by
    have h1 := potC_pos ws
    have h2 := fRd_pos d.2
    show 0 ≤ fRd d.2 + potC ws
    omega
theorem StkC.ot [DecidableEq Ob] {P : Int → Prop} {n r : Nat → Bool} {u v : iST} {E : Sp.Env} (hT : CT u) (g : CG n r u v) (o : OtC P u v) : ∀ ws : List Sp.Cla, StkC u E ws → (∀ j, 120 ≤ j → j < 120 + (ws.length : Int) → P j) → StkC v E ws
  | [], _, _ => trivial
  | d :: ws, h, hp => ⟨h.1.ot o hT g (hp _ (by omega) (by show (120 : Int) + (ws.length : Int) < 120 + ((ws.length + 1 : Nat) : Int); omega)), h.2.1, h.2.2.1, StkC.ot hT g o ws h.2.2.2 (fun j h1 h2 => hp j h1 (by show j < 120 + ((ws.length + 1 : Nat) : Int); omega))⟩
theorem GivC.ot [DecidableEq Ob] {P : Int → Prop} {n r : Nat → Bool} {u v : iST} {E : Sp.Env} (hT : CT u) (g : CG n r u v) (o : OtC P u v) (h13 : v.1 13 = u.1 13) (hp : ∀ j, j < 120 → P j) : ∀ (gs : List Sp.Cla) (k : Int), GivC u E k gs → GivC v E k gs
  | [], k, h => h13.trans h
  | d :: gs, k, h => ⟨h.1, h.2.1.ot o hT g (hp k h.1), h.2.2.1, by rw [h13]; exact h.2.2.2.1, GivC.ot hT g o h13 hp gs (k + 1) h.2.2.2.2⟩
theorem LfOC.ot [DecidableEq Ob] {P : Int → Prop} {n r : Nat → Bool} {u v : iST} {E : Sp.Env} {ls : List Sp.Cla} (h : LfOC u E ls) (hT : CT u) (g : CG n r u v) (o : OtC P u v) (h15 : v.1 15 = u.1 15) (hp : ∀ j, 130 ≤ j → j < 130 + (ls.length : Int) → P j) : LfOC v E ls := ⟨h15.trans h.1, fun i d hi => (h.2 i d hi).ot o hT g (hp _ (by omega) (by have := (List.getElem?_eq_some_iff.mp hi).1; omega))⟩
def Sp.pvIt [DecidableEq Ob] (E : Sp.Env) : Nat → Sp.Pv → Option Sp.Pv
  | 0, p => some p
  | n + 1, p => match Sp.pvStep E p with | .inl q => Sp.pvIt E n q | .inr _ => none
def PvR [DecidableEq Ob] (E : Sp.Env) (p q : Sp.Pv) : Prop := ∃ n, Sp.pvIt E n p = some q
theorem pvIt_snoc [DecidableEq Ob] {E : Sp.Env} : ∀ (n : Nat) (p q q' : Sp.Pv), Sp.pvIt E n p = some q → Sp.pvStep E q = .inl q' → Sp.pvIt E (n + 1) p = some q'
  | 0, p, q, q', h, g => by
    have h : p = q := Option.some.inj h
    show (match Sp.pvStep E p with | .inl q => Sp.pvIt E 0 q | .inr _ => none) = _
    rw [h, g]; rfl
  | n + 1, p, q, q', h, g => by
    have h : (match Sp.pvStep E p with | .inl q => Sp.pvIt E n q | .inr _ => none) = some q := h
    show (match Sp.pvStep E p with | .inl q => Sp.pvIt E (n + 1) q | .inr _ => none) = _
    cases e : Sp.pvStep E p with
    | inl r => rw [e] at h; exact pvIt_snoc n r q q' h g
    | inr r => rw [e] at h; cases h
theorem PvR.go [DecidableEq Ob] {E : Sp.Env} {p q q' : Sp.Pv} (h : PvR E p q) (g : Sp.pvStep E q = .inl q') : PvR E p q' := by
  obtain ⟨n, h⟩ := h
  exact ⟨n + 1, pvIt_snoc n p q q' h g⟩
theorem PvR.fin [DecidableEq Ob] {E : Sp.Env} {r : Option (List Sp.Cla) × Sp.Wk} : ∀ {p q : Sp.Pv}, PvR E p q → Sp.PvEnd E q r → Sp.PvEnd E p r := by
  rintro p q ⟨n, h⟩ g
  induction n generalizing p with
  | zero =>
    have h : p = q := Option.some.inj h
    rw [h]; exact g
  | succ n ih =>
    have h : (match Sp.pvStep E p with | .inl q => Sp.pvIt E n q | .inr _ => none) = some q := h
    cases e : Sp.pvStep E p with
    | inl r' => rw [e] at h; exact Sp.PvEnd.more e (ih h)
    | inr r' => rw [e] at h; cases h
theorem pv_full [DecidableEq Ob] {E : Sp.Env} {ws ls : List Sp.Cla} {s : Sp.Wk} (h : 20 ≤ ls.length) : Sp.pvStep E (ws, ls, s) = .inr (some ls, s) := by
  unfold Sp.pvStep
  cases ws with
  | nil => rfl
  | cons c ws => show (if 20 ≤ ls.length then _ else _) = _; rw [if_pos h]
theorem pv_plain [DecidableEq Ob] {E : Sp.Env} {c : Sp.Cla} {ws ls : List Sp.Cla} {s : Sp.Wk} (h : ¬ 20 ≤ ls.length) (hp : Sp.plainC c.1 = true) : Sp.pvStep E (c :: ws, ls, s) = .inl (ws, ls, s) := by
  show (if 20 ≤ ls.length then _ else if Sp.plainC c.1 then Sum.inl (ws, ls, s) else _) = _
  rw [if_neg h, if_pos hp]
theorem pv_leave [DecidableEq Ob] {E : Sp.Env} {c : Sp.Cla} {ws ls : List Sp.Cla} {s : Sp.Wk} (h : ¬ 20 ≤ ls.length) (hp : Sp.plainC c.1 = false) (h6 : c.2 = 6) : Sp.pvStep E (c :: ws, ls, s) = .inl (ws, ls ++ [c], s) := by
  show (if 20 ≤ ls.length then _ else if Sp.plainC c.1 then _ else if c.2 = 6 then Sum.inl (ws, ls ++ [c], s) else _) = _
  rw [if_neg h, if_neg (by rw [hp]; decide), if_pos h6]
theorem pv_round [DecidableEq Ob] {E : Sp.Env} {c : Sp.Cla} {ws ls : List Sp.Cla} {s : Sp.Wk} (h : ¬ 20 ≤ ls.length) (hp : Sp.plainC c.1 = false) (h6 : c.2 ≠ 6) : Sp.pvStep E (c :: ws, ls, s) = match Sp.roundGo E c.2 31 [] c.1 false s with
      | .ok none s => .inl (ws, ls, s)
      | .ok (some (.inl (a, b))) s => .inl (a :: b :: ws, ls, s)
      | .ok (some (.inr (.inl d))) s => .inl (ws, ls ++ [d], s)
      | .ok (some (.inr (.inr d))) s => .inl (d :: ws, ls, s)
      | .error _ s => .inr (none, s) := by
  show (if 20 ≤ ls.length then _ else if Sp.plainC c.1 then _ else if c.2 = 6 then _ else _) = _
  rw [if_neg h, if_neg (by rw [hp]; decide), if_neg h6]
  rfl
