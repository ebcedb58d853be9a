-- deps: 433
/-! terms: each call has as many terms as its function takes -/
theorem Ob.len_pr [DecidableEq Ob] (a b : Ob) : Ob.len (.pr a b) = if Ob.len b = -1 then -1 else Ob.len b + 1 := rfl
theorem Ob.len_var [DecidableEq Ob] (x : Nat) : Ob.len (.var x) = if .var x = Ob.nil then 0 else -1 := rfl
theorem Ob.len_low [DecidableEq Ob] : ∀ o : Ob, -1 ≤ o.len
  | .var x => by rw [Ob.len_var]; split <;> omega
  | .op a b => by
    have := Ob.len_low b
    rw [show Ob.len (.op a b) = _ from Ob.len_pr a b]; split <;> omega
theorem Ob.len_nil [DecidableEq Ob] : Ob.len Ob.nil = 0 := by show (if Ob.nil = Ob.nil then (0 : Int) else -1) = 0; exact if_pos rfl
theorem Ob.len_ofList [DecidableEq Ob] : ∀ l : List Ob, Ob.len (Ob.ofList l) = (l.length : Int)
  | [] => Ob.len_nil
  | a :: l => by
    have ih := Ob.len_ofList l
    show (if Ob.len (Ob.ofList l) = -1 then (-1 : Int) else Ob.len (Ob.ofList l) + 1) = _
    rw [ih, if_neg (by omega)]
    simp
theorem Ob.toList_ofList [DecidableEq Ob] : ∀ l : List Ob, Ob.toList (Ob.ofList l) = l
  | [] => rfl
  | a :: l => by show a :: Ob.toList (Ob.ofList l) = a :: l; rw [Ob.toList_ofList l]
theorem Ob.ofList_toList [DecidableEq Ob] : ∀ o : Ob, o.len ≠ -1 → Ob.ofList (Ob.toList o) = o
  | .var x, h => by
    by_cases c : .var x = Ob.nil
    · exact c.symm
    · rw [Ob.len_var, if_neg c] at h; exact absurd rfl h
  | .op a b, h => by
    show Lean.Data.AC.Expr.op a (Ob.ofList (Ob.toList b)) = _
    rw [Ob.ofList_toList b (fun e => h (by rw [show Ob.len (.op a b) = _ from Ob.len_pr a b, if_pos e]))]
theorem Ob.len_toList [DecidableEq Ob] {o : Ob} (h : o.len ≠ -1) : o.len = (o.toList.length : Int) := by
  rw [← Ob.len_ofList, Ob.ofList_toList o h]
theorem Ob.item_get [DecidableEq Ob] : ∀ (o : Ob) (k : Nat), o.item k = o.toList.getD k Ob.nil
  | .var _, 0 => rfl
  | .var _, k + 1 => rfl
  | .op a b, 0 => rfl
  | .op a b, k + 1 => by show Ob.item b k = (Ob.toList b).getD k Ob.nil; exact Ob.item_get b k
def Ob.wtM [DecidableEq Ob] (ar : Ob → Int) : Bool → Ob → Prop
  | true, .op a b => Ob.wtM ar false a ∧ Ob.wtM ar true b
  | true, .var x => .var x = Ob.nil
  | false, .op a b => (a = Ob.quote → ∃ x, b = Ob.pr x Ob.nil ∧ Ob.constOf x = Ob.pr a b) ∧ (a ≠ Ob.quote → Ob.isSym a = true ∧ Ob.len b = ar a ∧ Ob.wtM ar true b)
  | false, .var _ => True
def Ob.wt [DecidableEq Ob] (ar : Ob → Int) (o : Ob) : Prop := Ob.wtM ar false o
theorem Ob.wt_row [DecidableEq Ob] {ar : Ob → Int} : ∀ b : Ob, Ob.wtM ar true b ↔ b.len ≠ -1 ∧ ∀ x, x ∈ b.toList → Ob.wt ar x
  | .var x => by
    show (.var x = Ob.nil) ↔ _
    rw [Ob.len_var]
    by_cases c : .var x = Ob.nil
    · rw [if_pos c]; exact ⟨fun _ => ⟨by decide, fun y hy => by cases hy⟩, fun _ => c⟩
    · rw [if_neg c]; exact ⟨fun z => absurd z c, fun z => absurd rfl z.1⟩
  | .op a b => by
    have ih := Ob.wt_row (ar := ar) b
    have hl := Ob.len_low b
    show (Ob.wt ar a ∧ Ob.wtM ar true b) ↔ (Ob.len (.pr a b) ≠ -1 ∧ ∀ x, x ∈ a :: Ob.toList b → Ob.wt ar x)
    rw [ih, Ob.len_pr]
    constructor
    · rintro ⟨h1, h2, h3⟩
      refine ⟨by rw [if_neg h2]; omega, fun x hx => ?_⟩
      rcases List.mem_cons.mp hx with e | e
      · rw [e]; exact h1
      · exact h3 x e
    · rintro ⟨h1, h2⟩
      refine ⟨h2 a List.mem_cons_self, fun e => h1 (if_pos e), fun x hx => h2 x (List.mem_cons_of_mem _ hx)⟩
/-- a call: its function, its terms -/
theorem Ob.wt_call [DecidableEq Ob] {ar : Ob → Int} {o : Ob} (h : Ob.wt ar o) (hc : o.isCall = true) : ∃ f l, o = .pr f (Ob.ofList l) ∧ f ≠ Ob.quote ∧ f.isSym = true ∧ ar f = (l.length : Int) ∧ ∀ x, x ∈ l → Ob.wt ar x := by
  cases o with
  | var x => cases hc
  | op a b =>
    have hq : a ≠ Ob.quote := of_decide_eq_true hc
    obtain ⟨h1, h2, h3⟩ := h.2 hq
    obtain ⟨g1, g2⟩ := (Ob.wt_row b).mp h3
    exact ⟨a, Ob.toList b, by rw [Ob.ofList_toList b g1], hq, h1, by rw [← Ob.len_toList g1]; exact h2.symm, g2⟩
theorem Ob.wt_mk [DecidableEq Ob] {ar : Ob → Int} {f : Ob} {l : List Ob} (hq : f ≠ Ob.quote) (hs : f.isSym = true) (ha : ar f = (l.length : Int)) (hl : ∀ x, x ∈ l → Ob.wt ar x) : Ob.wt ar (.pr f (Ob.ofList l)) := by
  refine ⟨fun z => absurd z hq, fun _ => ⟨hs, by rw [Ob.len_ofList, ha], (Ob.wt_row _).mpr ⟨by rw [Ob.len_ofList]; omega, ?_⟩⟩⟩
  rw [Ob.toList_ofList]
  exact hl
theorem Ob.rgt_pr [DecidableEq Ob] (a b : Ob) : Ob.rgt (.pr a b) = b := rfl
theorem Ob.lft_pr [DecidableEq Ob] (a b : Ob) : Ob.lft (.pr a b) = a := rfl
theorem Ob.isCallOf_pr [DecidableEq Ob] (a b f : Ob) : Ob.isCallOf (.pr a b) f = decide (a = f) := rfl
theorem Ob.isCallOf_iff [DecidableEq Ob] {o f : Ob} : Ob.isCallOf o f = true ↔ ∃ b, o = .pr f b := by
  cases o with
  | var x => exact ⟨fun z => (by cases z), fun ⟨b, e⟩ => (by cases e)⟩
  | op a b => exact ⟨fun z => ⟨b, by rw [show a = f from of_decide_eq_true z]⟩, fun ⟨c, e⟩ => decide_eq_true (Ob.pr.inj e).1⟩
/-- the items of a call are its terms -/
theorem Ob.item_call [DecidableEq Ob] (f : Ob) (l : List Ob) (k : Nat) : Ob.item (.pr f (Ob.ofList l)) (k + 1) = l.getD k Ob.nil := by
  show Ob.item (Ob.ofList l) k = _
  rw [Ob.item_get, Ob.toList_ofList]
theorem Ob.wt_item [DecidableEq Ob] {ar : Ob → Int} {f : Ob} {l : List Ob} (hl : ∀ x, x ∈ l → Ob.wt ar x) {k : Nat} (hk : k < l.length) : Ob.wt ar (Ob.item (.pr f (Ob.ofList l)) (k + 1)) := by
  rw [Ob.item_call, List.getD_eq_getElem?_getD, List.getElem?_eq_getElem hk]
  exact hl _ (List.getElem_mem hk)
theorem Ob.wt_leaf [DecidableEq Ob] {ar : Ob → Int} {o : Ob} (h : o.isPr = false) : Ob.wt ar o := by
  cases o with
  | var x => trivial
  | op a b => cases h
/-- a call of a function that takes one term, two, three -/
theorem Ob.wt_one [DecidableEq Ob] {ar : Ob → Int} {o f : Ob} (h : Ob.wt ar o) (hc : o.isCallOf f = true) (hf : f ≠ Ob.quote) (ha : ar f = 1) : ∃ x, o = .pr f (.pr x Ob.nil) ∧ Ob.wt ar x := by
  obtain ⟨b, rfl⟩ := Ob.isCallOf_iff.mp hc
  obtain ⟨g, l, e, _, _, h4, h5⟩ := Ob.wt_call h (decide_eq_true hf)
  obtain ⟨rfl, rfl⟩ := Ob.pr.inj e
  match l, h4, h5 with
  | [], h4, _ => rw [ha] at h4; exact absurd h4 (by simp)
  | [x], _, h5 => exact ⟨x, rfl, h5 x List.mem_cons_self⟩
  | x :: y :: l, h4, _ => rw [ha] at h4; simp at h4; omega
theorem Ob.wt_two [DecidableEq Ob] {ar : Ob → Int} {o f : Ob} (h : Ob.wt ar o) (hc : o.isCallOf f = true) (hf : f ≠ Ob.quote) (ha : ar f = 2) : ∃ x y, o = .pr f (.pr x (.pr y Ob.nil)) ∧ Ob.wt ar x ∧ Ob.wt ar y := by
  obtain ⟨b, rfl⟩ := Ob.isCallOf_iff.mp hc
  obtain ⟨g, l, e, _, _, h4, h5⟩ := Ob.wt_call h (decide_eq_true hf)
  obtain ⟨rfl, rfl⟩ := Ob.pr.inj e
  match l, h4, h5 with
  | [], h4, _ => rw [ha] at h4; exact absurd h4 (by simp)
  | [x], h4, _ => rw [ha] at h4; exact absurd h4 (by simp)
  | [x, y], _, h5 => exact ⟨x, y, rfl, h5 x List.mem_cons_self, h5 y (List.mem_cons_of_mem _ List.mem_cons_self)⟩
  | x :: y :: z :: l, h4, _ => rw [ha] at h4; simp at h4; omega
theorem Ob.wt_three [DecidableEq Ob] {ar : Ob → Int} {o f : Ob} (h : Ob.wt ar o) (hc : o.isCallOf f = true) (hf : f ≠ Ob.quote) (ha : ar f = 3) : ∃ x y z, o = .pr f (.pr x (.pr y (.pr z Ob.nil))) ∧ Ob.wt ar x ∧ Ob.wt ar y ∧ Ob.wt ar z := by
  obtain ⟨b, rfl⟩ := Ob.isCallOf_iff.mp hc
  obtain ⟨g, l, e, _, _, h4, h5⟩ := Ob.wt_call h (decide_eq_true hf)
  obtain ⟨rfl, rfl⟩ := Ob.pr.inj e
  match l, h4, h5 with
  | [], h4, _ => rw [ha] at h4; exact absurd h4 (by simp)
  | [x], h4, _ => rw [ha] at h4; exact absurd h4 (by simp)
  | [x, y], h4, _ => rw [ha] at h4; exact absurd h4 (by simp)
  | [x, y, z], _, h5 => exact ⟨x, y, z, rfl, h5 x List.mem_cons_self, h5 y (List.mem_cons_of_mem _ List.mem_cons_self), h5 z (List.mem_cons_of_mem _ (List.mem_cons_of_mem _ List.mem_cons_self))⟩
  | x :: y :: z :: w :: l, h4, _ => rw [ha] at h4; simp at h4; omega
/-- symbols are different -/
theorem Ob.sym_ne [DecidableEq Ob] {s t : List Int} (h : Ob.enc s ≠ Ob.enc t) : Ob.sym s ≠ Ob.sym t := by
  intro e; injection e with e; omega
