-- deps: 4304
/-! evaluation, case by case -/
theorem bind_ok [DecidableEq Ob] {ε σ α β : Type} {x : σ → EStateM.Result ε σ α} {f : α → σ → EStateM.Result ε σ β} {s s' : σ} {a : α} (h : x s = .ok a s') : Sp.bd x f s = f a s' := by
  unfold Sp.bd; rw [h]
theorem bind_err [DecidableEq Ob] {ε σ α β : Type} {x : σ → EStateM.Result ε σ α} {f : α → σ → EStateM.Result ε σ β} {s s' : σ} {e : ε} (h : x s = .error e s') : Sp.bd x f s = .error e s' := by
  unfold Sp.bd; rw [h]
theorem ev_const [DecidableEq Ob] {E : Sp.Env} {env : Ob → Ob} {o : Ob} {s : Sp.Ek} (h : o.isConst = true) : ∀ d, Sp.ev E d env o s = .ok o.valOf s
  | 0 => by unfold Sp.ev; rw [if_pos h]
  | d + 1 => by unfold Sp.ev; rw [if_pos h]
theorem ev_var [DecidableEq Ob] {E : Sp.Env} {env : Ob → Ob} {o : Ob} {s : Sp.Ek} (h : o.isConst = false) (h2 : o.isCall = false) : ∀ d, Sp.ev E d env o s = .ok (env o) s
  | 0 => by unfold Sp.ev; rw [if_neg (by rw [h]; decide), if_pos (by rw [h2]; rfl)]
  | d + 1 => by unfold Sp.ev; rw [if_neg (by rw [h]; decide), if_pos (by rw [h2]; rfl)]
theorem ev_deep [DecidableEq Ob] {E : Sp.Env} {env : Ob → Ob} {o : Ob} {s : Sp.Ek} (h : o.isConst = false) (h2 : o.isCall = true) : Sp.ev E 0 env o s = .error 2 s := by
  unfold Sp.ev; rw [if_neg (by rw [h]; decide), if_neg (by rw [h2]; decide)]
theorem ev_own [DecidableEq Ob] {E : Sp.Env} {env : Ob → Ob} {o : Ob} {s : Sp.Ek} {d : Nat} (h : o.isConst = false) (h2 : o.isCall = true) (h3 : s.2.1 = 0) : Sp.ev E (d + 1) env o s = .error (-1) s := by
  unfold Sp.ev; rw [if_neg (by rw [h]; decide), if_neg (by rw [h2]; decide), if_pos h3]
theorem ev_fuel [DecidableEq Ob] {E : Sp.Env} {env : Ob → Ob} {o : Ob} {s : Sp.Ek} {d : Nat} (h : o.isConst = false) (h2 : o.isCall = true) (h3 : s.2.1 ≠ 0) (h4 : s.1 = 0) : Sp.ev E (d + 1) env o s = .error 1 s := by
  unfold Sp.ev; rw [if_neg (by rw [h]; decide), if_neg (by rw [h2]; decide), if_neg h3, if_pos h4]
theorem ev_if [DecidableEq Ob] {E : Sp.Env} {env : Ob → Ob} {o : Ob} {s : Sp.Ek} {d : Nat} (h : o.isConst = false) (h2 : o.isCall = true) (h3 : s.2.1 ≠ 0) (h4 : s.1 ≠ 0) (h5 : o.lft = Ob.ifS) :
    Sp.ev E (d + 1) env o s = Sp.bd (Sp.ev E d env (o.item 1)) (fun a => Sp.ev E d env (o.item (if a = Ob.nil then 3 else 2))) (s.1 - 1, s.2.1 - 1, s.2.2) := by
  rw [Sp.ev.eq_2, if_neg (by rw [h]; decide), if_neg (by rw [h2]; decide), if_neg h3, if_neg h4, if_pos h5]
/-- a call, its terms evaluated -/
def Sp.evCall [DecidableEq Ob] (E : Sp.Env) (d : Nat) (f : Ob) (vs : List Ob) : Sp.ME Ob :=
  match E.dfn f with
  | some D => Sp.ev E d (fun x => (Ob.lk (D.params.zip vs) x).getD Ob.nil) D.body
  | none => match Ob.base f (vs.getD 0 Ob.nil) (vs.getD 1 Ob.nil) with
    | some v => fun s => .ok v (s.1, s.2.1, s.2.2 + 1)
    | none => fun s => .error 3 s
theorem ev_call [DecidableEq Ob] {E : Sp.Env} {env : Ob → Ob} {o : Ob} {s : Sp.Ek} {d : Nat} (h : o.isConst = false) (h2 : o.isCall = true) (h3 : s.2.1 ≠ 0) (h4 : s.1 ≠ 0) (h5 : o.lft ≠ Ob.ifS) :
    Sp.ev E (d + 1) env o s = Sp.bd (Sp.evArgs (Sp.ev E d env) (Ob.toList (Ob.rgt o))) (Sp.evCall E d o.lft) (s.1 - 1, s.2.1 - 1, s.2.2) := by
  rw [Sp.ev.eq_2, if_neg (by rw [h]; decide), if_neg (by rw [h2]; decide), if_neg h3, if_neg h4, if_neg h5]
  rfl
theorem parts_row [DecidableEq Ob] : ∀ (l : List Ob) (x y : Ob), x ∈ l → y ∈ Ob.parts x → y ∈ Ob.ptM true (Ob.ofList l)
  | [], _, _, h, _ => by cases h
  | a :: l, x, y, h, hy => by
    show y ∈ Ob.ptM false a ++ Ob.ptM true (Ob.ofList l)
    rcases List.mem_cons.mp h with e | e
    · rw [← e]; exact List.mem_append_left _ hy
    · exact List.mem_append_right _ (parts_row l x y e hy)
theorem parts_call [DecidableEq Ob] {f : Ob} {l : List Ob} (hq : f ≠ Ob.quote) {x y : Ob} (hx : x ∈ l) (hy : y ∈ Ob.parts x) : y ∈ Ob.parts (.pr f (Ob.ofList l)) := by
  show y ∈ (if f = Ob.quote then [Ob.pr f (Ob.ofList l)] else Ob.pr f (Ob.ofList l) :: Ob.ptM true (Ob.ofList l))
  rw [if_neg hq]
  exact List.mem_cons_of_mem _ (parts_row l x y hx hy)
/-- the first place of an item -/
theorem first_at [DecidableEq Ob] : ∀ (l : List Ob) (x : Ob), x ∈ l → ∃ k : Nat, k < l.length ∧ l[k]? = some x ∧ ∀ j, j < k → l[j]? ≠ some x
  | [], _, h => by cases h
  | a :: l, x, h => by
    by_cases c : a = x
    · exact ⟨0, by simp, by rw [c]; rfl, fun j hj => by omega⟩
    · have hx : x ∈ l := (List.mem_cons.mp h).resolve_left (fun e => c e.symm)
      obtain ⟨k, k1, k2, k3⟩ := first_at l x hx
      refine ⟨k + 1, by simpa using k1, by simpa using k2, fun j hj => ?_⟩
      cases j with
      | zero => intro z; exact c (by simpa using z)
      | succ j => have := k3 j (by omega); simpa using this
theorem lk_zip [DecidableEq Ob] : ∀ (ps vs : List Ob) (x v : Ob) (k : Nat), ps[k]? = some x → vs[k]? = some v → (∀ j, j < k → ps[j]? ≠ some x) → Ob.lk (ps.zip vs) x = some v
  | [], _, _, _, _, h, _, _ => by cases h
  | _ :: _, [], _, _, _, _, h, _ => by cases h
  | p :: ps, w :: vs, x, v, 0, h, h2, _ => by
    have e : p = x := by simpa using h
    have e2 : w = v := by simpa using h2
    show (if p = x then some w else Ob.lk (ps.zip vs) x) = _
    rw [if_pos e, e2]
  | p :: ps, w :: vs, x, v, k + 1, h, h2, h3 => by
    have n : ¬ p = x := fun e => h3 0 (by omega) (by rw [e]; rfl)
    show (if p = x then some w else Ob.lk (ps.zip vs) x) = _
    rw [if_neg n]
    exact lk_zip ps vs x v k (by simpa using h) (by simpa using h2) (fun j hj => by have := h3 (j + 1) (by omega); simpa using this)
/-- definitions: their bodies are terms in their parameters -/
def Sp.DWf [DecidableEq Ob] (E : Sp.Env) : Prop := ∀ D, D ∈ E.defs → Ob.wt (Sp.arOf E) D.body ∧ ∀ x, x ∈ Ob.parts D.body → Ob.isVar x = true → x ∈ D.params
theorem dfn_mem [DecidableEq Ob] {E : Sp.Env} {f : Ob} {D : Sp.Dfn} (h : E.dfn f = some D) : D ∈ E.defs ∧ D.name = f := by
  unfold Sp.Env.dfn at h
  have h2 := List.find?_some h
  exact ⟨List.mem_of_find?_eq_some h, of_decide_eq_true h2⟩
