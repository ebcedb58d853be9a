-- deps: 79988
/-! how many nodes work makes at most: 117 a STEP, and what is left over -/
def NdBr [DecidableEq Ob] {α : Type} (A E : Int) (P : α → Prop) (s : Sp.Wk) (R : EStateM.Result Unit Sp.Wk α) : Prop :=
  match R with
  | .ok a s' => P a ∧ s'.1 ≤ s.1 ∧ (s'.2 : Int) ≤ (s.2 : Int) + 117 * ((s.1 : Int) - (s'.1 : Int)) + A
  | .error _ s' => s'.1 ≤ s.1 ∧ (s'.2 : Int) ≤ (s.2 : Int) + 117 * ((s.1 : Int) - (s'.1 : Int)) + E
/-- at most A more when it goes on, at most E when it fails -/
def NdB [DecidableEq Ob] {α : Type} (A E : Int) (P : α → Prop) (m : Sp.M α) : Prop := ∀ s, NdBr A E P s (m s)
theorem NdB.le [DecidableEq Ob] {α : Type} {A E A' E' : Int} {P P' : α → Prop} {m : Sp.M α} (h : NdB A E P m) (hA : A ≤ A') (hE : E ≤ E') (hP : ∀ a, P a → P' a) : NdB A' E' P' m := fun s => by
  have q := h s
  unfold NdBr at q ⊢
  split at q
  · next a s' e => (try rw [e]); exact ⟨hP _ q.1, q.2.1, by have := q.2.2; omega⟩
  · next x s' e => (try rw [e]); exact ⟨q.1, by have := q.2; omega⟩
theorem NdB.bd [DecidableEq Ob] {α β : Type} {A E B F C G : Int} {P : α → Prop} {Q : β → Prop} {m : Sp.M α} {k : α → Sp.M β} (h : NdB A E P m) (g : ∀ a, P a → NdB B F Q (k a)) (hC : A + B ≤ C) (hE : E ≤ G) (hF : A + F ≤ G) : NdB C G Q (Sp.bd m k) := fun s => by
  have q := h s
  unfold NdBr at q
  unfold Sp.bd
  split at q
  · next a s' e =>
    try rw [e]
    have q2 := g a q.1 s'
    show NdBr C G Q s (k a s')
    unfold NdBr at q2 ⊢
    split at q2
    · next b s2 e2 =>
      try rw [e2]
      exact ⟨q2.1, by have := q.2.1; have := q2.2.1; omega, by have := q.2.2; have := q2.2.2; omega⟩
    · next x s2 e2 =>
      try rw [e2]
      exact ⟨by have := q.2.1; have := q2.1; omega, by have := q.2.2; have := q2.2; omega⟩
  · next x s' e =>
    try rw [e]
    exact ⟨q.1, by have := q.2; omega⟩
theorem NdB.ret [DecidableEq Ob] {α : Type} {A E : Int} {P : α → Prop} {a : α} (hA : 0 ≤ A) (hP : P a) : NdB A E P (Sp.ret a) := fun s => ⟨hP, Nat.le_refl _, by
  show (s.2 : Int) ≤ (s.2 : Int) + 117 * ((s.1 : Int) - (s.1 : Int)) + A
  omega⟩
theorem NdB.fail [DecidableEq Ob] {α : Type} {A E : Int} {P : α → Prop} (hE : 0 ≤ E) : NdB A E P (Sp.fail (α := α)) := fun s => ⟨Nat.le_refl _, by
  show (s.2 : Int) ≤ (s.2 : Int) + 117 * ((s.1 : Int) - (s.1 : Int)) + E
  omega⟩
theorem NdB.pay [DecidableEq Ob] {n : Nat} {A E : Int} (hA : (n : Int) ≤ A) : NdB A E (fun _ => True) (Sp.pay n) := fun s => ⟨trivial, Nat.le_refl _, by
  show ((s.2 + n : Nat) : Int) ≤ (s.2 : Int) + 117 * ((s.1 : Int) - (s.1 : Int)) + A
  omega⟩
theorem NdB.tick [DecidableEq Ob] {A E : Int} (hA : -117 ≤ A) (hE : 0 ≤ E) : NdB A E (fun _ => True) Sp.tick := fun s => by
  unfold Sp.tick
  by_cases c : s.1 = 0
  · rw [if_pos c]
    exact ⟨Nat.le_refl _, by show (s.2 : Int) ≤ (s.2 : Int) + 117 * ((s.1 : Int) - (s.1 : Int)) + E; omega⟩
  · rw [if_neg c]
    exact ⟨trivial, by show s.1 - 1 ≤ s.1; omega, by show (s.2 : Int) ≤ (s.2 : Int) + 117 * ((s.1 : Int) - ((s.1 - 1 : Nat) : Int)) + A; omega⟩
theorem NdB.big [DecidableEq Ob] {o : Ob} {n : Nat} {A E : Int} (hA : (n : Int) ≤ A) (hE : (n : Int) ≤ E) : NdB A E (fun x => x = o) (Sp.big o n) := fun s => by
  unfold Sp.big
  by_cases c : 120 < Ob.sz o
  · rw [if_pos c]
    exact ⟨Nat.le_refl _, by show ((s.2 + n : Nat) : Int) ≤ (s.2 : Int) + 117 * ((s.1 : Int) - (s.1 : Int)) + E; omega⟩
  · rw [if_neg c]
    exact ⟨rfl, Nat.le_refl _, by show ((s.2 + n : Nat) : Int) ≤ (s.2 : Int) + 117 * ((s.1 : Int) - (s.1 : Int)) + A; omega⟩
theorem NdB.ite [DecidableEq Ob] {α : Type} {A E : Int} {P : α → Prop} {c : Prop} [Decidable c] {m n : Sp.M α} (h : c → NdB A E P m) (g : ¬ c → NdB A E P n) : NdB A E P (if c then m else n) := by
  by_cases q : c
  · rw [if_pos q]; exact h q
  · rw [if_neg q]; exact g q
theorem NdB.not [DecidableEq Ob] {o : Ob} {A E : Int} (hA : 2 ≤ A) (hE : 2 ≤ E) : NdB A E (fun _ => True) (Sp.mkNot o) := by
  unfold Sp.mkNot
  refine NdB.ite (fun _ => NdB.ret (by omega) trivial) (fun _ => NdB.ite (fun _ => NdB.ret (by omega) trivial) (fun _ => NdB.ite (fun _ => NdB.ret (by omega) trivial) (fun _ => ?_)))
  exact (NdB.big (n := 2) (A := A) (E := E) (by omega) (by omega)).le (Int.le_refl _) (Int.le_refl _) (fun _ _ => trivial)
theorem NdB.fill [DecidableEq Ob] {s : Ob → Ob} {o : Ob} {A E : Int} (hA : Ob.csM false o ≤ A) (hE : Ob.csM false o ≤ E) : NdB A E (fun x => x = Ob.sbM s false o) (Sp.fill s o) := by
  have h0 := (csM_it false o).1
  have hn : ((if Ob.sbM s false o = o ∨ Ob.has [] (Ob.sbM s false o) = true then 0 else (Ob.csM false o).toNat : Nat) : Int) ≤ Ob.csM false o := by
    split <;> omega
  exact NdB.big (by omega) (by omega)
theorem NdB.fill0 [DecidableEq Ob] {s : Ob → Ob} {o : Ob} {A E : Int} (hi : Ob.sbM s false o = o) (hA : 0 ≤ A) (hE : 0 ≤ E) : NdB A E (fun x => x = Ob.sbM s false o) (Sp.fill s o) := by
  have hn : ((if Ob.sbM s false o = o ∨ Ob.has [] (Ob.sbM s false o) = true then 0 else (Ob.csM false o).toNat : Nat) : Int) = 0 := by
    rw [if_pos (Or.inl hi)]; rfl
  exact NdB.big (by omega) (by omega)
/-! sizes -/
theorem csM_sz [DecidableEq Ob] : ∀ (m : Bool) (o : Ob), Ob.csM m o + (if m = true then 0 else 1) ≤ 2 * Ob.szM m o
  | true, .op a b => by
    have h1 : Ob.csM false a + 1 ≤ 2 * Ob.szM false a := csM_sz false a
    have h2 : Ob.csM true b + 0 ≤ 2 * Ob.szM true b := csM_sz true b
    show 1 + Ob.csM false a + Ob.csM true b + 0 ≤ 2 * (Ob.szM false a + Ob.szM true b)
    omega
  | true, .var x => by show (0 : Int) + 0 ≤ 2 * 0; decide
  | false, .op a b => by
    have h2 : Ob.csM true b + 0 ≤ 2 * Ob.szM true b := csM_sz true b
    show (if a = Ob.quote then 0 else 1 + Ob.csM true b) + 1 ≤ 2 * (if a = Ob.quote then 1 else 1 + Ob.szM true b)
    by_cases c : a = Ob.quote
    · rw [if_pos c, if_pos c]; decide
    · rw [if_neg c, if_neg c]; omega
  | false, .var x => by show (0 : Int) + 1 ≤ 2 * 1; decide
theorem csM_le [DecidableEq Ob] (o : Ob) : Ob.csM false o + 1 ≤ 2 * o.sz := csM_sz false o
theorem csM_sb [DecidableEq Ob] (s : Ob → Ob) : ∀ (m : Bool) (o : Ob), Ob.csM m o ≤ Ob.csM m (Ob.sbM s m o)
  | true, .op a b => by
    have h1 := csM_sb s false a
    have h2 := csM_sb s true b
    show 1 + Ob.csM false a + Ob.csM true b ≤ 1 + Ob.csM false (Ob.sbM s false a) + Ob.csM true (Ob.sbM s true b)
    omega
  | true, .var x => Int.le_refl _
  | false, .op a b => by
    have h2 := csM_sb s true b
    rw [show Ob.sbM s false (.op a b) = _ from sb_pr s a b]
    by_cases c : a = Ob.quote
    · rw [if_pos c]; exact Int.le_refl _
    · rw [if_neg c]
      show (if a = Ob.quote then 0 else 1 + Ob.csM true b) ≤ (if a = Ob.quote then 0 else 1 + Ob.csM true (Ob.sbM s true b))
      rw [if_neg c, if_neg c]
      omega
  | false, .var x => (csM_it false (Ob.sbM s false (.var x))).1
/-- at most 20 of it -/
def cm [DecidableEq Ob] (o : Ob) : Int := if Ob.csM false o ≤ 20 then Ob.csM false o else 20
theorem cm_r [DecidableEq Ob] (o : Ob) : 0 ≤ cm o ∧ cm o ≤ 20 ∧ cm o ≤ Ob.csM false o := by
  have := (csM_it false o).1
  unfold cm
  split <;> omega
theorem cm_mono [DecidableEq Ob] {a b : Ob} (h : Ob.csM false a ≤ Ob.csM false b) : cm a ≤ cm b := by
  unfold cm
  split <;> split <;> omega
/-- what a fill costs and what is given for it when it is asked -/
theorem cm_pay [DecidableEq Ob] {p x : Ob} (h : Ob.csM false p ≤ Ob.csM false x) : (Ob.csM false p ≤ 132 → Ob.csM false p - 112 - cm x ≤ 0) ∧ Ob.csM false p - 112 - cm x ≤ Ob.csM false p - 112 ∧ (132 < Ob.csM false p → Ob.csM false p - 112 - cm x = Ob.csM false p - 132) ∧ Ob.csM false p + 20 - cm x ≤ (if Ob.csM false p ≤ 20 then 20 else Ob.csM false p) := by
  have h0 := (csM_it false p).1
  have h1 := (csM_it false x).1
  unfold cm
  split <;> split <;> omega
/-! evaluation: a node a STEP -/
def NEr [DecidableEq Ob] {α : Type} (s : Sp.Ek) (R : EStateM.Result Int Sp.Ek α) : Prop :=
  match R with
  | .ok _ s' => s'.1 ≤ s.1 ∧ (s'.2.2 : Int) ≤ (s.2.2 : Int) + ((s.1 : Int) - (s'.1 : Int))
  | .error _ s' => s'.1 ≤ s.1 ∧ (s'.2.2 : Int) ≤ (s.2.2 : Int) + ((s.1 : Int) - (s'.1 : Int))
theorem NEr.bd [DecidableEq Ob] {α β : Type} {s0 : Sp.Ek} {x : Sp.ME α} {f : α → Sp.ME β} {s : Sp.Ek} (h0 : s.1 ≤ s0.1 ∧ (s.2.2 : Int) ≤ (s0.2.2 : Int) + ((s0.1 : Int) - (s.1 : Int))) (h : ∀ s, NEr s (x s)) (g : ∀ a s, NEr s (f a s)) : NEr s0 (Sp.bd x f s) := by
  have q := h s
  unfold NEr at q
  unfold Sp.bd
  split at q
  · next a s' e =>
    try rw [e]
    have q2 := g a s'
    show NEr s0 (f a s')
    unfold NEr at q2 ⊢
    split at q2
    · next b s2 e2 => (try rw [e2]); exact ⟨by omega, by omega⟩
    · next b s2 e2 => (try rw [e2]); exact ⟨by omega, by omega⟩
  · next a s' e => (try rw [e]); exact ⟨by omega, by omega⟩
theorem NEr.pre [DecidableEq Ob] {α : Type} {s0 s : Sp.Ek} {R : EStateM.Result Int Sp.Ek α} (h0 : s.1 ≤ s0.1 ∧ (s.2.2 : Int) ≤ (s0.2.2 : Int) + ((s0.1 : Int) - (s.1 : Int))) (h : NEr s R) : NEr s0 R := by
  unfold NEr at h ⊢
  split at h
  · exact ⟨by omega, by omega⟩
  · exact ⟨by omega, by omega⟩
theorem evb_args [DecidableEq Ob] {r : Ob → Sp.ME Ob} (hr : ∀ o s, NEr s (r o s)) : ∀ (l : List Ob) (s : Sp.Ek), NEr s (Sp.evArgs r l s)
  | [], s => ⟨Nat.le_refl _, by omega⟩
  | a :: l, s => NEr.bd ⟨Nat.le_refl _, by omega⟩ (hr a) (fun v s => NEr.bd ⟨Nat.le_refl _, by omega⟩ (evb_args hr l) (fun vs s => ⟨Nat.le_refl _, by omega⟩))
/-- what remains when one STEP is owed -/
def NE1 [DecidableEq Ob] {α : Type} (s : Sp.Ek) (R : EStateM.Result Int Sp.Ek α) : Prop :=
  match R with
  | .ok _ s' => s'.1 ≤ s.1 ∧ (s'.2.2 : Int) ≤ (s.2.2 : Int) + ((s.1 : Int) - (s'.1 : Int)) + 1
  | .error _ s' => s'.1 ≤ s.1 ∧ (s'.2.2 : Int) ≤ (s.2.2 : Int) + ((s.1 : Int) - (s'.1 : Int)) + 1
theorem NE1.of [DecidableEq Ob] {α : Type} {s : Sp.Ek} {R : EStateM.Result Int Sp.Ek α} (h : NEr s R) : NE1 s R := by
  unfold NEr at h
  unfold NE1
  split at h
  · exact ⟨by omega, by omega⟩
  · exact ⟨by omega, by omega⟩
theorem NE1.bd [DecidableEq Ob] {α β : Type} {x : Sp.ME α} {f : α → Sp.ME β} {s : Sp.Ek} (h : ∀ s, NEr s (x s)) (g : ∀ a s, NE1 s (f a s)) : NE1 s (Sp.bd x f s) := by
  have q := h s
  unfold NEr at q
  unfold Sp.bd
  split at q
  · next a s' e =>
    try rw [e]
    have q2 := g a s'
    show NE1 s (f a s')
    unfold NE1 at q2 ⊢
    split at q2
    · next b s2 e2 => (try rw [e2]); exact ⟨by omega, by omega⟩
    · next b s2 e2 => (try rw [e2]); exact ⟨by omega, by omega⟩
  · next a s' e => (try rw [e]); exact ⟨by omega, by omega⟩
theorem NE1.tick [DecidableEq Ob] {α : Type} {s : Sp.Ek} {b : Nat} {R : EStateM.Result Int Sp.Ek α} (h1 : ¬ s.1 = 0) (h : NE1 (s.1 - 1, b, s.2.2) R) : NEr s R := by
  cases R with
  | ok a s' =>
    have k1 : s'.1 ≤ s.1 - 1 := h.1
    have k2 : (s'.2.2 : Int) ≤ (s.2.2 : Int) + (((s.1 - 1 : Nat) : Int) - (s'.1 : Int)) + 1 := h.2
    exact ⟨by omega, by omega⟩
  | error a s' =>
    have k1 : s'.1 ≤ s.1 - 1 := h.1
    have k2 : (s'.2.2 : Int) ≤ (s.2.2 : Int) + (((s.1 - 1 : Nat) : Int) - (s'.1 : Int)) + 1 := h.2
    exact ⟨by omega, by omega⟩
theorem ev_bound [DecidableEq Ob] {E : Sp.Env} : ∀ (d : Nat) (env : Ob → Ob) (o : Ob) (s : Sp.Ek), NEr s (Sp.ev E d env o s)
  | 0, env, o, s => by
    unfold Sp.ev
    split
    · exact ⟨Nat.le_refl _, by omega⟩
    · split
      · exact ⟨Nat.le_refl _, by omega⟩
      · exact ⟨Nat.le_refl _, by omega⟩
  | d + 1, env, o, s => by
    have ih := ev_bound (E := E) d
    unfold Sp.ev
    split
    · exact ⟨Nat.le_refl _, by omega⟩
    split
    · exact ⟨Nat.le_refl _, by omega⟩
    show NEr s (if s.2.1 = 0 then _ else _)
    split
    · exact ⟨Nat.le_refl _, by omega⟩
    split
    · exact ⟨Nat.le_refl _, by omega⟩
    next h2 h1 =>
    refine NE1.tick (b := s.2.1 - 1) h1 ?_
    split
    · exact NE1.bd (ih env _) (fun a s => NE1.of (ih env _ s))
    · refine NE1.bd (evb_args (ih env) _) (fun vs s => ?_)
      cases E.dfn (Ob.lft o) with
      | some D => exact NE1.of (ih _ _ s)
      | none =>
        cases Ob.base (Ob.lft o) (vs.getD 0 Ob.nil) (vs.getD 1 Ob.nil) with
        | some v => exact ⟨Nat.le_refl _, by show ((s.2.2 + 1 : Nat) : Int) ≤ _; omega⟩
        | none => exact ⟨Nat.le_refl _, by show (s.2.2 : Int) ≤ _; omega⟩
