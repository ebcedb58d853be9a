-- deps: 799980
/-! the replay, in the specification alone: what was rewritten with notes is recalled from them -/
/-- each of these notes, with those behind it -/
def NtsOk [DecidableEq Ob] (P : Sz.Nt → List Sz.Nt → Prop) (t rest : List Sz.Nt) : Prop := ∀ (i : Nat) (h : i < t.length), P t[i] ((t ++ rest).drop (i + 1))
theorem NtsOk.nil [DecidableEq Ob] {P : Sz.Nt → List Sz.Nt → Prop} (rest : List Sz.Nt) : NtsOk P [] rest := fun i h => absurd h (Nat.not_lt_zero i)
theorem NtsOk.app [DecidableEq Ob] {P : Sz.Nt → List Sz.Nt → Prop} {a b rest : List Sz.Nt} (h : NtsOk P a (b ++ rest)) (g : NtsOk P b rest) : NtsOk P (a ++ b) rest := fun i hi => by
  rw [List.length_append] at hi
  by_cases c : i < a.length
  · have := h i c
    rw [List.getElem_append_left c, List.append_assoc]
    exact this
  · have := g (i - a.length) (by omega)
    rw [List.getElem_append_right (by omega), List.append_assoc, List.drop_append, List.drop_of_length_le (by omega), List.nil_append, show i + 1 - a.length = i - a.length + 1 by omega]
    exact this
/-- c' is no less than c -/
def CoL [DecidableEq Ob] (c c' : Sz.Co) : Prop := c.1 ≤ c'.1 ∧ ∀ o, o ∈ c.2 → o ∈ c'.2
theorem CoL.rf [DecidableEq Ob] (c : Sz.Co) : CoL c c := ⟨Nat.le_refl _, fun _ h => h⟩
theorem CoL.tr [DecidableEq Ob] {a b c : Sz.Co} (h : CoL a b) (g : CoL b c) : CoL a c := ⟨Nat.le_trans h.1 g.1, fun o ho => g.2 o (h.2 o ho)⟩
theorem CoL.ad [DecidableEq Ob] (c : Sz.Co) (o : Ob) (n : Nat) : CoL c (Sz.ad c o n) := ⟨Nat.le_add_right _ _, fun _ h => List.mem_cons_of_mem _ h⟩
def coR [DecidableEq Ob] {α : Type} (R : EStateM.Result Unit Sz.Wk α) : Sz.Co := match R with | .ok _ s => s.2.1 | .error _ s => s.2.1
def stR_z [DecidableEq Ob] {α : Type} (R : EStateM.Result Unit Sz.Wk α) : Nat := match R with | .ok _ s => s.1 | .error _ s => s.1
def Mono_z [DecidableEq Ob] {α : Type} (m : Sz.M α) : Prop := ∀ s, CoL s.2.1 (coR (m s)) ∧ stR_z (m s) ≤ s.1
theorem Mono_z.at [DecidableEq Ob] {α : Type} {m : Sz.M α} (h : Mono_z m) {s s' : Sz.Wk} {v : α} (e : m s = .ok v s') : CoL s.2.1 s'.2.1 ∧ s'.1 ≤ s.1 := by
  have := h s
  rw [e] at this
  exact this
theorem Mono_z.ret [DecidableEq Ob] {α : Type} {a : α} : Mono_z (Sz.ret a) := fun _ => ⟨CoL.rf _, Nat.le_refl _⟩
theorem Mono_z.fail [DecidableEq Ob] {α : Type} : Mono_z (Sz.fail (α := α)) := fun _ => ⟨CoL.rf _, Nat.le_refl _⟩
theorem Mono_z.pay [DecidableEq Ob] {o : Ob} {n : Nat} : Mono_z (Sz.pay o n) := fun s => ⟨CoL.ad s.2.1 o n, Nat.le_refl _⟩
theorem Mono_z.tick [DecidableEq Ob] : Mono_z Sz.tick := fun s => by
  unfold Sz.tick
  split
  · exact ⟨CoL.rf _, Nat.le_refl _⟩
  · exact ⟨CoL.rf _, Nat.sub_le _ _⟩
theorem Mono_z.big [DecidableEq Ob] {o : Ob} {n : Nat} : Mono_z (Sz.big o n) := fun s => by
  unfold Sz.big
  split
  · exact ⟨⟨Nat.le_add_right _ _, fun _ h => h⟩, Nat.le_refl _⟩
  · exact ⟨CoL.ad s.2.1 o n, Nat.le_refl _⟩
theorem Mono_z.bd [DecidableEq Ob] {α β : Type} {m : Sz.M α} {k : α → Sz.M β} (h : Mono_z m) (g : ∀ a, Mono_z (k a)) : Mono_z (Sp.bd m k) := fun s => by
  have h1 := h s
  cases e : m s with
  | ok a s1 =>
    rw [bind_ok e]
    rw [e] at h1
    exact ⟨h1.1.tr (g a s1).1, Nat.le_trans (g a s1).2 h1.2⟩
  | error x s1 =>
    rw [bind_err e]
    rw [e] at h1
    exact h1
theorem Mono_z.ite [DecidableEq Ob] {α : Type} {c : Prop} [Decidable c] {m n : Sz.M α} (h : Mono_z m) (g : Mono_z n) : Mono_z (if c then m else n) := by
  split
  · exact h
  · exact g
theorem Mono_z.not [DecidableEq Ob] {o : Ob} : Mono_z (Sz.mkNot o) := by
  unfold Sz.mkNot
  exact Mono_z.ite Mono_z.ret (Mono_z.ite Mono_z.ret (Mono_z.ite Mono_z.ret Mono_z.big))
theorem Mono_z.fill [DecidableEq Ob] {s : Ob → Ob} {o : Ob} : Mono_z (Sz.fill s o) := Mono_z.big
/-- what was made is L, or was made before -/
def NwL [DecidableEq Ob] (L : Ob → Prop) (c c' : Sz.Co) : Prop := ∀ o, o ∈ c'.2 → o ∈ c.2 ∨ L o
theorem NwL.rf [DecidableEq Ob] (L : Ob → Prop) (c : Sz.Co) : NwL L c c := fun _ h => Or.inl h
theorem NwL.tr [DecidableEq Ob] {L : Ob → Prop} {a b c : Sz.Co} (h : NwL L a b) (g : NwL L b c) : NwL L a c := fun o ho => (g o ho).elim (h o) Or.inr
theorem NwL.ad [DecidableEq Ob] {L : Ob → Prop} {c : Sz.Co} {o : Ob} {n : Nat} (h : L o) : NwL L c (Sz.ad c o n) := fun x hx => by
  rcases List.mem_cons.mp hx with q | q
  · rw [q]; exact Or.inr h
  · exact Or.inl q
/-- all that was made is L -/
def AlL [DecidableEq Ob] (L : Ob → Prop) (c : Sz.Co) : Prop := ∀ o, o ∈ c.2 → L o
theorem AlL.dn [DecidableEq Ob] {L : Ob → Prop} {a b : Sz.Co} (h : AlL L b) (g : CoL a b) : AlL L a := fun o ho => h o (g.2 o ho)
theorem AlL.hd [DecidableEq Ob] {L : Ob → Prop} {c : Sz.Co} {o : Ob} {n : Nat} (h : AlL L (Sz.ad c o n)) : L o := h o List.mem_cons_self
/-- m2 from the notes does what m1 did, makes nothing that m1 did not make (L), in no more STEPS; P holds of the notes -/
def RZ [DecidableEq Ob] (L : Ob → Prop) (P : Sz.Nt → List Sz.Nt → Prop) {α : Type} (m1 m2 : Sz.M α) : Prop := ∀ s v s', s.1 ≤ 1000 → m1 s = .ok v s' → AlL L s'.2.1 → ∃ t', s'.2.2 = s.2.2 ++ t' ∧ (∀ rest, NtsOk P t' rest) ∧ ∀ s2 rest, s.1 ≤ s2.1 → s2.2.2 = t' ++ rest → ∃ s2', m2 s2 = .ok v s2' ∧ s2'.2.2 = rest ∧ NwL L s2.2.1 s2'.2.1 ∧ s2.1 + s'.1 ≤ s2'.1 + s.1
theorem RZ.ret [DecidableEq Ob] {L : Ob → Prop} {P : Sz.Nt → List Sz.Nt → Prop} {α : Type} {a : α} : RZ L P (Sz.ret a) (Sz.ret a) := fun s v s' _ h _ => by
  cases h
  exact ⟨[], (List.append_nil _).symm, NtsOk.nil, fun s2 rest _ e => ⟨s2, rfl, e, NwL.rf L _, by omega⟩⟩
theorem RZ.fail [DecidableEq Ob] {L : Ob → Prop} {P : Sz.Nt → List Sz.Nt → Prop} {α : Type} {m : Sz.M α} : RZ L P (Sz.fail (α := α)) m := fun s v s' _ h _ => by cases h
theorem RZ.tick [DecidableEq Ob] {L : Ob → Prop} {P : Sz.Nt → List Sz.Nt → Prop} : RZ L P Sz.tick Sz.tick := fun s v s' _ h _ => by
  unfold Sz.tick at h
  split at h
  · cases h
  · rename_i h0
    cases h
    refine ⟨[], (List.append_nil _).symm, NtsOk.nil, fun s2 rest hs e => ⟨(s2.1 - 1, s2.2), ?_, e, NwL.rf L _, ?_⟩⟩
    · unfold Sz.tick
      rw [if_neg (by omega)]
    · show s2.1 + (s.1 - 1) ≤ s2.1 - 1 + s.1
      omega
theorem RZ.bd [DecidableEq Ob] {L : Ob → Prop} {P : Sz.Nt → List Sz.Nt → Prop} {α β : Type} {m1 m2 : Sz.M α} {k1 k2 : α → Sz.M β} (h : RZ L P m1 m2) (g : ∀ a, RZ L P (k1 a) (k2 a)) (hm : Mono_z m1) (hk : ∀ a, Mono_z (k1 a)) : RZ L P (Sp.bd m1 k1) (Sp.bd m2 k2) := fun s v s' s0 e ec => by
  cases q : m1 s with
  | error x s1 =>
    rw [bind_err q] at e
    cases e
  | ok a s1 =>
    rw [bind_ok q] at e
    have c1 := hm.at q
    have c2 := (hk a).at e
    obtain ⟨t1, e1, n1, f1⟩ := h s a s1 s0 q (ec.dn c2.1)
    obtain ⟨t2, e2, n2, f2⟩ := g a s1 v s' (by omega) e ec
    refine ⟨t1 ++ t2, by rw [e2, e1, List.append_assoc], fun rest => (n1 (t2 ++ rest)).app (n2 rest), fun s2 rest hs er => ?_⟩
    obtain ⟨z, z1, z2, z3, z4⟩ := f1 s2 (t2 ++ rest) hs (by rw [er, List.append_assoc])
    obtain ⟨y, y1, y2, y3, y4⟩ := f2 z rest (by omega) z2
    exact ⟨y, by rw [bind_ok z1]; exact y1, y2, z3.tr y3, by omega⟩
theorem RZ.ite [DecidableEq Ob] {L : Ob → Prop} {P : Sz.Nt → List Sz.Nt → Prop} {α : Type} {c : Prop} [Decidable c] {m n m' n' : Sz.M α} (h : RZ L P m m') (g : RZ L P n n') : RZ L P (if c then m else n) (if c then m' else n') := by
  by_cases q : c
  · rw [if_pos q, if_pos q]; exact h
  · rw [if_neg q, if_neg q]; exact g
theorem RZ.pay [DecidableEq Ob] {L : Ob → Prop} {P : Sz.Nt → List Sz.Nt → Prop} {o : Ob} {n : Nat} : RZ L P (Sz.pay o n) (Sz.pay o n) := fun s v s' _ e ec => by
  cases e
  exact ⟨[], (List.append_nil _).symm, NtsOk.nil, fun s2 rest _ er => ⟨_, rfl, er, NwL.ad (AlL.hd ec), by show s2.1 + s.1 ≤ s2.1 + s.1; omega⟩⟩
theorem RZ.big [DecidableEq Ob] {L : Ob → Prop} {P : Sz.Nt → List Sz.Nt → Prop} {o : Ob} {n : Nat} : RZ L P (Sz.big o n) (Sz.big o n) := fun s v s' _ e ec => by
  unfold Sz.big at e
  split at e
  · cases e
  · rename_i h0
    cases e
    refine ⟨[], (List.append_nil _).symm, NtsOk.nil, fun s2 rest _ er => ⟨(s2.1, Sz.ad s2.2.1 o n, s2.2.2), ?_, er, NwL.ad (AlL.hd ec), by show s2.1 + s.1 ≤ s2.1 + s.1; omega⟩⟩
    unfold Sz.big
    rw [if_neg h0]
theorem RZ.not [DecidableEq Ob] {L : Ob → Prop} {P : Sz.Nt → List Sz.Nt → Prop} {o : Ob} : RZ L P (Sz.mkNot o) (Sz.mkNot o) := by
  unfold Sz.mkNot
  exact RZ.ite RZ.ret (RZ.ite RZ.ret (RZ.ite RZ.ret RZ.big))
section
variable {L : Ob → Prop} {P : Sz.Nt → List Sz.Nt → Prop} {E : Sp.Env}
theorem rwHyps_mono_z [DecidableEq Ob] {r : Ob → Sz.M Ob} {s : Ob → Ob} (hr : ∀ o, Mono_z (r o)) : ∀ l : List Ob, Mono_z (Sz.rwHyps r s l)
  | [] => Mono_z.ret
  | h :: l => Mono_z.bd Mono_z.big (fun x => Mono_z.bd (hr x) (fun v => Mono_z.ite (rwHyps_mono_z hr l) Mono_z.ret))
theorem rm_hyps [DecidableEq Ob] {r r' : Ob → Sz.M Ob} {s : Ob → Ob} (hr : ∀ o, RZ L P (r o) (r' o)) (hm : ∀ o, Mono_z (r o)) : ∀ l : List Ob, RZ L P (Sz.rwHyps r s l) (Sz.rwHyps r' s l)
  | [] => RZ.ret
  | a :: l => RZ.bd (RZ.big) (fun x => RZ.bd (hr x) (fun v => RZ.ite (rm_hyps hr hm l) RZ.ret) (hm x) (fun v => Mono_z.ite (rwHyps_mono_z hm l) Mono_z.ret)) Mono_z.big (fun x => Mono_z.bd (hm x) (fun v => Mono_z.ite (rwHyps_mono_z hm l) Mono_z.ret))
theorem rwArgs_mono_z [DecidableEq Ob] {r : Ob → Sz.M Ob} (hr : ∀ o, Mono_z (r o)) : ∀ l : List Ob, Mono_z (Sz.rwArgs r l)
  | [] => Mono_z.ret
  | a :: l => Mono_z.bd (hr a) (fun v => Mono_z.bd (rwArgs_mono_z hr l) (fun vs => Mono_z.ret))
theorem rm_args [DecidableEq Ob] {r r' : Ob → Sz.M Ob} (hr : ∀ o, RZ L P (r o) (r' o)) (hm : ∀ o, Mono_z (r o)) : ∀ l : List Ob, RZ L P (Sz.rwArgs r l) (Sz.rwArgs r' l)
  | [] => RZ.ret
  | a :: l => RZ.bd (hr a) (fun v => RZ.bd (rm_args hr hm l) (fun vs => RZ.ret) (rwArgs_mono_z hm l) (fun vs => Mono_z.ret)) (hm a) (fun v => Mono_z.bd (rwArgs_mono_z hm l) (fun vs => Mono_z.ret))
theorem unf_mono_z [DecidableEq Ob] {r : Ob → Bool → Sz.M Ob} (hr : ∀ o t, Mono_z (r o t)) {u : Ob} {t : Bool} : Mono_z (Sz.unf E r u t) := by
  unfold Sz.unf
  split
  · exact Mono_z.ret
  · refine Mono_z.ite (Mono_z.bd Mono_z.big (fun x => hr x t)) (Mono_z.ite (Mono_z.bd Mono_z.big (fun q => Mono_z.bd (hr q true) (fun a => ?_))) Mono_z.ret)
    exact Mono_z.ite (Mono_z.bd Mono_z.big (fun x => hr x t)) Mono_z.ret
theorem rm_unf [DecidableEq Ob] {r r' : Ob → Bool → Sz.M Ob} (hr : ∀ o t, RZ L P (r o t) (r' o t)) (hm : ∀ o t, Mono_z (r o t)) {u : Ob} {t : Bool} : RZ L P (Sz.unf E r u t) (Sz.unf E r' u t) := by
  unfold Sz.unf
  cases E.dfn (Ob.lft u) with
  | none => exact RZ.ret
  | some D =>
    have m3 : ∀ a : Ob, Mono_z (if Ob.isConst a = true then Sp.bd (Sz.fill (Ob.lkD (D.params.zip (Ob.toList (Ob.rgt u)))) (Ob.item D.body (if a = Ob.nil then 3 else 2))) fun x => r x t else Sz.ret u) := fun a => Mono_z.ite (Mono_z.bd Mono_z.big (fun x => hm x t)) Mono_z.ret
    refine RZ.ite (RZ.bd (RZ.big) (fun x => hr x t) Mono_z.big (fun x => hm x t)) (RZ.ite (RZ.bd (RZ.big) (fun q => RZ.bd (hr q true) (fun a => ?_) (hm q true) m3) Mono_z.big (fun q => Mono_z.bd (hm q true) m3)) RZ.ret)
    exact RZ.ite (RZ.bd (RZ.big) (fun x => hr x t) Mono_z.big (fun x => hm x t)) RZ.ret
theorem rwRules_mono_z [DecidableEq Ob] {r : Ob → Bool → Sz.M Ob} (hr : ∀ o t, Mono_z (r o t)) {u : Ob} {t : Bool} : ∀ l : List Sp.Thm, Mono_z (Sz.rwRules E r u t l)
  | [] => unf_mono_z hr
  | k :: ks => by
    have ih := rwRules_mono_z hr (u := u) (t := t) ks
    unfold Sz.rwRules
    split
    · exact ih
    · split
      · exact ih
      · refine Mono_z.bd Mono_z.tick (fun _ => Mono_z.bd (Mono_z.ite (Mono_z.bd Mono_z.big (fun x => Mono_z.ret)) Mono_z.ret) (fun g => Mono_z.ite (Mono_z.bd (rwHyps_mono_z (fun o => hr o true) _) (fun b => Mono_z.ite (Mono_z.bd Mono_z.big (fun x => hr x t)) ih)) ih))
theorem rm_rules [DecidableEq Ob] {r r' : Ob → Bool → Sz.M Ob} (hr : ∀ o t, RZ L P (r o t) (r' o t)) (hm : ∀ o t, Mono_z (r o t)) {u : Ob} {t : Bool} : ∀ l : List Sp.Thm, RZ L P (Sz.rwRules E r u t l) (Sz.rwRules E r' u t l)
  | [] => rm_unf hr hm
  | k :: ks => by
    have ih := rm_rules hr hm (u := u) (t := t) ks
    have mi : Mono_z (Sz.rwRules E r u t ks) := rwRules_mono_z hm ks
    unfold Sz.rwRules
    cases Sp.can E k t with
    | none => exact ih
    | some R =>
      dsimp only
      cases Ob.mt R.lhs u with
      | none => exact ih
      | some l =>
        dsimp only
        have m2 : ∀ b : Bool, Mono_z (if b = true then Sp.bd (Sz.fill (Ob.lkD l) R.rhs) fun x => r x t else Sz.rwRules E r u t ks) := fun b => Mono_z.ite (Mono_z.bd Mono_z.big (fun x => hm x t)) mi
        have m1 : ∀ g : Bool, Mono_z (if g = true then Sp.bd (Sz.rwHyps (fun h => r h true) (Ob.lkD l) R.hyps) fun b => if b = true then Sp.bd (Sz.fill (Ob.lkD l) R.rhs) fun x => r x t else Sz.rwRules E r u t ks else Sz.rwRules E r u t ks) := fun g => Mono_z.ite (Mono_z.bd (rwHyps_mono_z (fun o => hm o true) _) m2) mi
        have m0 : Mono_z (if R.perm = true then Sp.bd (Sz.fill (Ob.lkD l) R.rhs) fun x => Sz.ret (Ob.smaller x u) else Sz.ret true) := Mono_z.ite (Mono_z.bd Mono_z.big (fun x => Mono_z.ret)) Mono_z.ret
        refine RZ.bd RZ.tick (fun _ => RZ.bd (RZ.ite (RZ.bd (RZ.big) (fun x => RZ.ret) Mono_z.big (fun x => Mono_z.ret)) RZ.ret) (fun g => RZ.ite (RZ.bd (rm_hyps (fun o => hr o true) (fun o => hm o true) _) (fun b => RZ.ite (RZ.bd (RZ.big) (fun x => hr x t) Mono_z.big (fun x => hm x t)) ih) (rwHyps_mono_z (fun o => hm o true) _) m2) ih) m0 m1) Mono_z.tick (fun _ => Mono_z.bd m0 m1)
theorem plain_mono_z [DecidableEq Ob] {u : Ob} {m : Sz.M Ob} (h : Sz.plain u = some (.inr m)) : Mono_z m := by
  unfold Sz.plain at h
  repeat' split at h
  all_goals first
    | (have e := Sum.inr.inj (Option.some.inj h); rw [← e]; first | exact Mono_z.bd Mono_z.big (fun _ => Mono_z.bd Mono_z.big (fun _ => Mono_z.big)) | exact Mono_z.bd Mono_z.pay (fun _ => Mono_z.big) | exact Mono_z.big)
    | (cases h; done)
theorem plain_rz [DecidableEq Ob] {u : Ob} {m : Sz.M Ob} (h : Sz.plain u = some (.inr m)) : RZ L P m m := by
  unfold Sz.plain at h
  repeat' split at h
  all_goals first
    | (have e := Sum.inr.inj (Option.some.inj h); rw [← e]; first | exact RZ.bd RZ.big (fun _ => RZ.bd RZ.big (fun _ => RZ.big) Mono_z.big (fun _ => Mono_z.big)) Mono_z.big (fun _ => Mono_z.bd Mono_z.big (fun _ => Mono_z.big)) | exact RZ.bd RZ.pay (fun _ => RZ.big) Mono_z.pay (fun _ => Mono_z.big) | exact RZ.big)
    | (cases h; done)
theorem rwRest_mono_z [DecidableEq Ob] {r : Ob → Bool → Sz.M Ob} (hr : ∀ o t, Mono_z (r o t)) {ctx : List Ob} {u : Ob} {t : Bool} : Mono_z (Sz.rwRest E r ctx u t) := by
  unfold Sz.rwRest
  split
  · exact Mono_z.ret
  · rename_i m h
    exact Mono_z.bd (plain_mono_z h) (fun x => hr x t)
  · exact Mono_z.ite (rwRules_mono_z hr _) Mono_z.ret
theorem rm_rest [DecidableEq Ob] {r r' : Ob → Bool → Sz.M Ob} (hr : ∀ o t, RZ L P (r o t) (r' o t)) (hm : ∀ o t, Mono_z (r o t)) {ctx : List Ob} {u : Ob} {t : Bool} : RZ L P (Sz.rwRest E r ctx u t) (Sz.rwRest E r' ctx u t) := by
  unfold Sz.rwRest
  cases e : Sz.plain u with
  | none => exact RZ.ite (rm_rules hr hm _) RZ.ret
  | some x =>
    cases x with
    | inl o => exact RZ.ret
    | inr m => exact RZ.bd (plain_rz e) (fun x => hr x t) (plain_mono_z e) (fun x => hm x t)
end
