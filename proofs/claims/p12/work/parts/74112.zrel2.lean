-- deps: 799981
/-! the replay, in the specification alone: evaluation, rewriting -/
def coE [DecidableEq Ob] {α : Type} (R : EStateM.Result Int Sz.Ek α) : Sz.Co := match R with | .ok _ s => s.2.2 | .error _ s => s.2.2
def stpE_z [DecidableEq Ob] {α : Type} (R : EStateM.Result Int Sz.Ek α) : Nat := match R with | .ok _ s => s.1 | .error _ s => s.1
def ownE_z [DecidableEq Ob] {α : Type} (R : EStateM.Result Int Sz.Ek α) : Nat := match R with | .ok _ s => s.2.1 | .error _ s => s.2.1
def MonE_z [DecidableEq Ob] {α : Type} (m : Sz.ME α) : Prop := ∀ s, CoL s.2.2 (coE (m s)) ∧ stpE_z (m s) ≤ s.1 ∧ ownE_z (m s) ≤ s.2.1
theorem MonE_z.ok [DecidableEq Ob] {α : Type} (a : α) : MonE_z (fun s => .ok a s) := fun s => ⟨CoL.rf _, Nat.le_refl _, Nat.le_refl _⟩
theorem MonE_z.err [DecidableEq Ob] {α : Type} (x : Int) : MonE_z (α := α) (fun s => .error x s) := fun s => ⟨CoL.rf _, Nat.le_refl _, Nat.le_refl _⟩
def RE [DecidableEq Ob] (L : Ob → Prop) {α : Type} (m1 m2 : Sz.ME α) : Prop := ∀ s, (∀ v s', m1 s = .ok v s' → AlL L s'.2.2 → s'.1 ≤ s.1 ∧ ∀ s2, s.1 ≤ s2.1 → s2.2.1 = s.2.1 → ∃ s2', m2 s2 = .ok v s2' ∧ s2'.2.1 = s'.2.1 ∧ NwL L s2.2.2 s2'.2.2 ∧ s2.1 + s'.1 = s2'.1 + s.1) ∧ (∀ w s', m1 s = .error w s' → w ≠ 1 → AlL L s'.2.2 → s'.1 ≤ s.1 ∧ ∀ s2, s.1 ≤ s2.1 → s2.2.1 = s.2.1 → ∃ s2', m2 s2 = .error w s2' ∧ s2'.2.1 = s'.2.1 ∧ NwL L s2.2.2 s2'.2.2 ∧ s2.1 + s'.1 = s2'.1 + s.1)
theorem MonE_z.bd [DecidableEq Ob] {α β : Type} {m : Sz.ME α} {k : α → Sz.ME β} (h : MonE_z m) (g : ∀ a, MonE_z (k a)) : MonE_z (Sp.bd m k) := fun s => by
  have h1 := h s
  cases e : m s with
  | ok a s1 =>
    rw [bind_ok e]
    rw [e] at h1
    exact ⟨h1.1.tr (g a s1).1, Nat.le_trans (g a s1).2.1 h1.2.1, Nat.le_trans (g a s1).2.2 h1.2.2⟩
  | error x s1 =>
    rw [bind_err e]
    rw [e] at h1
    exact h1
theorem RE.bd [DecidableEq Ob] {L : Ob → Prop} {α β : Type} {m1 m2 : Sz.ME α} {k1 k2 : α → Sz.ME β} (h : RE L m1 m2) (g : ∀ a, RE L (k1 a) (k2 a)) (hm : MonE_z m1) (hk : ∀ a, MonE_z (k1 a)) : RE L (Sp.bd m1 k1) (Sp.bd m2 k2) := fun s => by
  have c1 := hm s
  cases q : m1 s with
  | error x s1 =>
    rw [q] at c1
    refine ⟨fun v s' e => (by rw [bind_err q] at e; cases e), fun w s' e hw ec => ?_⟩
    rw [bind_err q] at e
    cases e
    obtain ⟨l, f⟩ := (h s).2 x s1 q hw ec
    refine ⟨l, fun s2 a b => ?_⟩
    obtain ⟨z, z1, z2⟩ := f s2 a b
    exact ⟨z, by rw [bind_err z1], z2⟩
  | ok a s1 =>
    rw [q] at c1
    have c2 := hk a s1
    refine ⟨fun v s' e ec => ?_, fun w s' e hw ec => ?_⟩
    · rw [bind_ok q] at e
      rw [e] at c2
      have c2 : CoL s1.2.2 s'.2.2 := c2.1
      obtain ⟨l1, f1⟩ := (h s).1 a s1 q (ec.dn c2)
      obtain ⟨l2, f2⟩ := (g a s1).1 v s' e ec
      refine ⟨by omega, fun s2 hs ho => ?_⟩
      obtain ⟨z, z1, z2, z3, z4⟩ := f1 s2 hs ho
      obtain ⟨y, y1, y2, y3, y4⟩ := f2 z (by omega) z2
      exact ⟨y, by rw [bind_ok z1]; exact y1, y2, z3.tr y3, by omega⟩
    · rw [bind_ok q] at e
      rw [e] at c2
      have c2 : CoL s1.2.2 s'.2.2 := c2.1
      obtain ⟨l1, f1⟩ := (h s).1 a s1 q (ec.dn c2)
      obtain ⟨l2, f2⟩ := (g a s1).2 w s' e hw ec
      refine ⟨by omega, fun s2 hs ho => ?_⟩
      obtain ⟨z, z1, z2, z3, z4⟩ := f1 s2 hs ho
      obtain ⟨y, y1, y2, y3, y4⟩ := f2 z (by omega) z2
      exact ⟨y, by rw [bind_ok z1]; exact y1, y2, z3.tr y3, by omega⟩
theorem RE.ok [DecidableEq Ob] {L : Ob → Prop} {α : Type} (a : α) : RE L (fun s => .ok a s) (fun s => .ok a s) := fun s => ⟨fun v s' e _ => (by cases e; exact ⟨Nat.le_refl _, fun s2 _ ho => ⟨s2, rfl, ho, NwL.rf L _, by omega⟩⟩), fun w s' e => (by cases e)⟩
theorem RE.err [DecidableEq Ob] {L : Ob → Prop} {α : Type} (x : Int) : RE L (α := α) (fun s => .error x s) (fun s => .error x s) := fun s => ⟨fun v s' e => (by cases e), fun w s' e _ _ => by cases e; exact ⟨Nat.le_refl _, fun s2 _ ho => ⟨s2, rfl, ho, NwL.rf L _, by omega⟩⟩⟩
/-- one STEP of an evaluation -/
def gdE [DecidableEq Ob] {α : Type} (m : Sz.ME α) : Sz.ME α := fun s => if s.2.1 = 0 then .error (-1) s else if s.1 = 0 then .error 1 s else m (s.1 - 1, s.2.1 - 1, s.2.2)
theorem gdE_0 [DecidableEq Ob] {α : Type} {m : Sz.ME α} {s : Sz.Ek} (h : s.2.1 = 0) : gdE m s = .error (-1) s := if_pos h
theorem gdE_1 [DecidableEq Ob] {α : Type} {m : Sz.ME α} {s : Sz.Ek} (h : ¬ s.2.1 = 0) (h1 : s.1 = 0) : gdE m s = .error 1 s := (if_neg h).trans (if_pos h1)
theorem gdE_2 [DecidableEq Ob] {α : Type} {m : Sz.ME α} {s : Sz.Ek} (h : ¬ s.2.1 = 0) (h1 : ¬ s.1 = 0) : gdE m s = m (s.1 - 1, s.2.1 - 1, s.2.2) := (if_neg h).trans (if_neg h1)
theorem RE.gd [DecidableEq Ob] {L : Ob → Prop} {α : Type} {m1 m2 : Sz.ME α} (inner : RE L m1 m2) : RE L (gdE m1) (gdE m2) := fun s => by
  by_cases s1 : s.2.1 = 0
  · refine ⟨fun v s' e => (by rw [gdE_0 s1] at e; cases e), fun x s' e _ _ => ?_⟩
    rw [gdE_0 s1] at e
    cases e
    exact ⟨Nat.le_refl _, fun s2 _ ho => ⟨s2, gdE_0 (by rw [ho]; exact s1), ho, NwL.rf L _, rfl⟩⟩
  by_cases s0 : s.1 = 0
  · refine ⟨fun v s' e => (by rw [gdE_1 s1 s0] at e; cases e), fun x s' e hw _ => ?_⟩
    rw [gdE_1 s1 s0] at e
    cases e
    exact absurd rfl hw
  obtain ⟨i1, i2⟩ := inner (s.1 - 1, s.2.1 - 1, s.2.2)
  refine ⟨fun v s' e ec => ?_, fun x s' e hw ec => ?_⟩
  · rw [gdE_2 s1 s0] at e
    obtain ⟨l, f⟩ := i1 v s' e ec
    have l : s'.1 ≤ s.1 - 1 := l
    refine ⟨by omega, fun s2 hs ho => ?_⟩
    obtain ⟨z, z1, z2, z3, z4⟩ := f (s2.1 - 1, s2.2.1 - 1, s2.2.2) (by show s.1 - 1 ≤ s2.1 - 1; omega) (by show s2.2.1 - 1 = s.2.1 - 1; rw [ho])
    have z4 : s2.1 - 1 + s'.1 = z.1 + (s.1 - 1) := z4
    exact ⟨z, by rw [gdE_2 (by rw [ho]; exact s1) (by omega)]; exact z1, z2, z3, by omega⟩
  · rw [gdE_2 s1 s0] at e
    obtain ⟨l, f⟩ := i2 x s' e hw ec
    have l : s'.1 ≤ s.1 - 1 := l
    refine ⟨by omega, fun s2 hs ho => ?_⟩
    obtain ⟨z, z1, z2, z3, z4⟩ := f (s2.1 - 1, s2.2.1 - 1, s2.2.2) (by show s.1 - 1 ≤ s2.1 - 1; omega) (by show s2.2.1 - 1 = s.2.1 - 1; rw [ho])
    have z4 : s2.1 - 1 + s'.1 = z.1 + (s.1 - 1) := z4
    exact ⟨z, by rw [gdE_2 (by rw [ho]; exact s1) (by omega)]; exact z1, z2, z3, by omega⟩
theorem evArgs_mon_z [DecidableEq Ob] {r : Ob → Sz.ME Ob} (h : ∀ o, MonE_z (r o)) : ∀ l : List Ob, MonE_z (Sz.evArgs r l)
  | [] => MonE_z.ok _
  | a :: l => MonE_z.bd (h a) (fun v => MonE_z.bd (evArgs_mon_z h l) (fun vs => MonE_z.ok _))
theorem re_args [DecidableEq Ob] {L : Ob → Prop} {r r' : Ob → Sz.ME Ob} (h : ∀ o, RE L (r o) (r' o)) (hm : ∀ o, MonE_z (r o)) : ∀ l : List Ob, RE L (Sz.evArgs r l) (Sz.evArgs r' l)
  | [] => RE.ok _
  | a :: l => RE.bd (h a) (fun v => RE.bd (re_args h hm l) (fun vs => RE.ok _) (evArgs_mon_z hm l) (fun vs => MonE_z.ok _)) (hm a) (fun v => MonE_z.bd (evArgs_mon_z hm l) (fun vs => MonE_z.ok _))
section
variable {L : Ob → Prop} {P : Sz.Nt → List Sz.Nt → Prop} {E : Sp.Env}
def evB [DecidableEq Ob] (f : Ob) (vs : List Ob) (k : Sp.Dfn → Sz.ME Ob) (E : Sp.Env) : Sz.ME Ob :=
  match E.dfn f with
  | some D => k D
  | none => match Ob.base f (vs.getD 0 Ob.nil) (vs.getD 1 Ob.nil) with
    | some v => fun s => .ok v (s.1, s.2.1, Sz.ad s.2.2 v 1)
    | none => fun s => .error 3 s
theorem evB_mon [DecidableEq Ob] {f : Ob} {vs : List Ob} {k : Sp.Dfn → Sz.ME Ob} (hk : ∀ D, MonE_z (k D)) : MonE_z (evB f vs k E) := by
  unfold evB
  split
  · exact hk _
  · split
    · exact fun s => ⟨CoL.ad _ _ _, Nat.le_refl _, Nat.le_refl _⟩
    · exact MonE_z.err 3
theorem re_B [DecidableEq Ob] {f : Ob} {vs : List Ob} {k k' : Sp.Dfn → Sz.ME Ob} (hk : ∀ D, RE L (k D) (k' D)) : RE L (evB f vs k E) (evB f vs k' E) := by
  unfold evB
  cases E.dfn f with
  | some D => exact hk D
  | none =>
    cases Ob.base f (vs.getD 0 Ob.nil) (vs.getD 1 Ob.nil) with
    | none => exact RE.err 3
    | some v => exact fun s => ⟨fun w s' e ec => by cases e; exact ⟨Nat.le_refl _, fun s2 _ ho => ⟨_, rfl, ho, NwL.ad (AlL.hd ec), by show s2.1 + s.1 = s2.1 + s.1; rfl⟩⟩, fun w s' e => by cases e⟩
theorem evz_0 [DecidableEq Ob] (env : Ob → Ob) (o : Ob) : Sz.ev E 0 env o = if Ob.isConst o then fun s => .ok (Ob.valOf o) s else if !Ob.isCall o then fun s => .ok (env o) s else fun s => .error 2 s := by
  unfold Sz.ev
  rfl
theorem evz_s [DecidableEq Ob] (d : Nat) (env : Ob → Ob) (o : Ob) : Sz.ev E (d + 1) env o = if Ob.isConst o then fun s => .ok (Ob.valOf o) s else if !Ob.isCall o then fun s => .ok (env o) s
    else fun s => if s.2.1 = 0 then .error (-1) s else if s.1 = 0 then .error 1 s else
      (if Ob.lft o = Ob.ifS then Sp.bd (Sz.ev E d env (Ob.item o 1)) fun a => Sz.ev E d env (Ob.item o (if a = Ob.nil then 3 else 2))
       else Sp.bd (Sz.evArgs (Sz.ev E d env) (Ob.toList (Ob.rgt o))) fun vs => evB (Ob.lft o) vs (fun D => Sz.ev E d (fun x => (Ob.lk (D.params.zip vs) x).getD Ob.nil) D.body) E) (s.1 - 1, s.2.1 - 1, s.2.2) := by
  rw [Sz.ev.eq_2]
  rfl
theorem ev_mon_z [DecidableEq Ob] : ∀ (d : Nat) (env : Ob → Ob) (o : Ob), MonE_z (Sz.ev E d env o)
  | 0, env, o => fun s => by
    rw [evz_0]
    split
    · exact ⟨CoL.rf _, Nat.le_refl _, Nat.le_refl _⟩
    · split
      · exact ⟨CoL.rf _, Nat.le_refl _, Nat.le_refl _⟩
      · exact ⟨CoL.rf _, Nat.le_refl _, Nat.le_refl _⟩
  | d + 1, env, o => fun s => by
    rw [evz_s]
    split
    · exact ⟨CoL.rf _, Nat.le_refl _, Nat.le_refl _⟩
    · split
      · exact ⟨CoL.rf _, Nat.le_refl _, Nat.le_refl _⟩
      · show CoL _ (coE (if s.2.1 = 0 then _ else if s.1 = 0 then _ else _)) ∧ stpE_z (if s.2.1 = 0 then _ else if s.1 = 0 then _ else _) ≤ _ ∧ ownE_z (if s.2.1 = 0 then _ else if s.1 = 0 then _ else _) ≤ _
        split
        · exact ⟨CoL.rf _, Nat.le_refl _, Nat.le_refl _⟩
        · split
          · exact ⟨CoL.rf _, Nat.le_refl _, Nat.le_refl _⟩
          · have key : ∀ m : Sz.ME Ob, MonE_z m → CoL s.2.2 (coE (m (s.1 - 1, s.2.1 - 1, s.2.2))) ∧ stpE_z (m (s.1 - 1, s.2.1 - 1, s.2.2)) ≤ s.1 ∧ ownE_z (m (s.1 - 1, s.2.1 - 1, s.2.2)) ≤ s.2.1 := fun m hm => ⟨(hm (s.1 - 1, s.2.1 - 1, s.2.2)).1, Nat.le_trans (hm (s.1 - 1, s.2.1 - 1, s.2.2)).2.1 (Nat.sub_le _ _), Nat.le_trans (hm (s.1 - 1, s.2.1 - 1, s.2.2)).2.2 (Nat.sub_le _ _)⟩
            refine key _ ?_
            split
            · exact MonE_z.bd (ev_mon_z d env _) (fun a => ev_mon_z d env _)
            · exact MonE_z.bd (evArgs_mon_z (ev_mon_z d env) _) (fun vs => evB_mon (fun D => ev_mon_z d _ _))
theorem re_ev [DecidableEq Ob] : ∀ (d : Nat) (env : Ob → Ob) (o : Ob), RE L (Sz.ev E d env o) (Sz.ev E d env o)
  | 0, env, o => by
    rw [evz_0]
    by_cases c1 : Ob.isConst o = true
    · rw [if_pos c1]; exact RE.ok _
    rw [if_neg c1]
    by_cases c2 : (!Ob.isCall o) = true
    · rw [if_pos c2]; exact RE.ok _
    rw [if_neg c2]; exact RE.err 2
  | d + 1, env, o => by
    rw [evz_s]
    by_cases c1 : Ob.isConst o = true
    · rw [if_pos c1]; exact RE.ok _
    rw [if_neg c1]
    by_cases c2 : (!Ob.isCall o) = true
    · rw [if_pos c2]; exact RE.ok _
    rw [if_neg c2]
    have inner : RE L (if Ob.lft o = Ob.ifS then Sp.bd (Sz.ev E d env (Ob.item o 1)) fun a => Sz.ev E d env (Ob.item o (if a = Ob.nil then 3 else 2))
       else Sp.bd (Sz.evArgs (Sz.ev E d env) (Ob.toList (Ob.rgt o))) fun vs => evB (Ob.lft o) vs (fun D => Sz.ev E d (fun x => (Ob.lk (D.params.zip vs) x).getD Ob.nil) D.body) E) (if Ob.lft o = Ob.ifS then Sp.bd (Sz.ev E d env (Ob.item o 1)) fun a => Sz.ev E d env (Ob.item o (if a = Ob.nil then 3 else 2))
       else Sp.bd (Sz.evArgs (Sz.ev E d env) (Ob.toList (Ob.rgt o))) fun vs => evB (Ob.lft o) vs (fun D => Sz.ev E d (fun x => (Ob.lk (D.params.zip vs) x).getD Ob.nil) D.body) E) := by
      by_cases c3 : Ob.lft o = Ob.ifS
      · rw [if_pos c3]
        exact RE.bd (re_ev d env _) (fun a => re_ev d env _) (ev_mon_z d env _) (fun a => ev_mon_z d env _)
      · rw [if_neg c3]
        exact RE.bd (re_args (re_ev d env) (ev_mon_z d env) _) (fun vs => re_B (fun D => re_ev d _ _)) (evArgs_mon_z (ev_mon_z d env) _) (fun vs => evB_mon (fun D => ev_mon_z d _ _))
    exact RE.gd inner
theorem rwApply_mono_z [DecidableEq Ob] {r : Ob → Bool → Sz.M Ob} (hr : ∀ o t, Mono_z (r o t)) {ctx : List Ob} {u : Ob} {t : Bool} : Mono_z (Sz.rwApply E r ctx u t) := by
  have h : Mono_z (Sz.rwRest E r ctx u t) := rwRest_mono_z hr
  unfold Sz.rwApply
  refine Mono_z.ite ?_ h
  split
  · split
    · exact fun s => ⟨(CoL.ad s.2.1 _ 1).tr (CoL.ad _ _ 2), Nat.le_refl _⟩
    · exact h
  · intro s
    have hm := ev_mon_z (E := E) 300 (fun x => x) u (s.1, 100, s.2.1)
    show CoL s.2.1 (coR (match Sz.ev E 300 (fun x => x) u (s.1, 100, s.2.1) with | .ok v s' => .ok (Ob.constOf v) (s'.1, Sz.ad s'.2.2 (Ob.constOf v) 2, s.2.2) | .error w s' => if w = 1 then .error () (s'.1, s'.2.2, s.2.2) else Sz.rwRest E r ctx u t (s'.1, s'.2.2, s.2.2))) ∧ stR_z (match Sz.ev E 300 (fun x => x) u (s.1, 100, s.2.1) with | .ok v s' => .ok (Ob.constOf v) (s'.1, Sz.ad s'.2.2 (Ob.constOf v) 2, s.2.2) | .error w s' => if w = 1 then .error () (s'.1, s'.2.2, s.2.2) else Sz.rwRest E r ctx u t (s'.1, s'.2.2, s.2.2)) ≤ s.1
    cases e : Sz.ev E 300 (fun x => x) u (s.1, 100, s.2.1) with
    | ok v s' =>
      rw [e] at hm
      have hm : CoL s.2.1 s'.2.2 ∧ s'.1 ≤ s.1 := ⟨hm.1, hm.2.1⟩
      exact ⟨hm.1.tr (CoL.ad _ _ _), hm.2⟩
    | error w s' =>
      rw [e] at hm
      have hm : CoL s.2.1 s'.2.2 ∧ s'.1 ≤ s.1 := ⟨hm.1, hm.2.1⟩
      show CoL s.2.1 (coR (if w = 1 then .error () (s'.1, s'.2.2, s.2.2) else Sz.rwRest E r ctx u t (s'.1, s'.2.2, s.2.2))) ∧ stR_z (if w = 1 then .error () (s'.1, s'.2.2, s.2.2) else Sz.rwRest E r ctx u t (s'.1, s'.2.2, s.2.2)) ≤ s.1
      split
      · exact hm
      · have := h (s'.1, s'.2.2, s.2.2)
        exact ⟨hm.1.tr this.1, Nat.le_trans this.2 hm.2⟩
theorem rm_apply [DecidableEq Ob] {r r' : Ob → Bool → Sz.M Ob} (hr : ∀ o t, RZ L P (r o t) (r' o t)) (hm : ∀ o t, Mono_z (r o t)) {ctx : List Ob} {u : Ob} {t : Bool} : RZ L P (Sz.rwApply E r ctx u t) (Sz.rwApply E r' ctx u t) := by
  have hR : Mono_z (Sz.rwRest E r ctx u t) := rwRest_mono_z hm
  have hRR : RZ L P (Sz.rwRest E r ctx u t) (Sz.rwRest E r' ctx u t) := rm_rest hr hm
  unfold Sz.rwApply
  refine RZ.ite ?_ hRR
  cases E.dfn (Ob.lft u) with
  | none =>
    show RZ L P (match Ob.base (Ob.lft u) (Ob.valOf (Ob.item u 1)) (Ob.valOf (Ob.item u 2)) with | some v => fun s => .ok (Ob.constOf v) (s.1, Sz.ad (Sz.ad s.2.1 v 1) (Ob.constOf v) 2, s.2.2) | none => Sz.rwRest E r ctx u t) (match Ob.base (Ob.lft u) (Ob.valOf (Ob.item u 1)) (Ob.valOf (Ob.item u 2)) with | some v => fun s => .ok (Ob.constOf v) (s.1, Sz.ad (Sz.ad s.2.1 v 1) (Ob.constOf v) 2, s.2.2) | none => Sz.rwRest E r' ctx u t)
    cases Ob.base (Ob.lft u) (Ob.valOf (Ob.item u 1)) (Ob.valOf (Ob.item u 2)) with
    | none => exact hRR
    | some v =>
      intro s w s' _ e ec
      cases e
      have ec : AlL L (Sz.ad (Sz.ad s.2.1 v 1) (Ob.constOf v) 2) := ec
      refine ⟨[], (List.append_nil _).symm, NtsOk.nil, fun s2 rest _ er => ⟨_, rfl, er, ?_, by show s2.1 + s.1 ≤ s2.1 + s.1; omega⟩⟩
      exact (NwL.ad (AlL.hd (ec.dn (CoL.ad _ _ _)))).tr (NwL.ad (AlL.hd ec))
  | some D =>
    intro s w s' s0 e ec
    obtain ⟨i1, i2⟩ := re_ev (E := E) (L := L) 300 (fun x => x) u (s.1, 100, s.2.1)
    have hmv := ev_mon_z (E := E) 300 (fun x => x) u (s.1, 100, s.2.1)
    have e : (match Sz.ev E 300 (fun x => x) u (s.1, 100, s.2.1) with
      | .ok v s' => .ok (Ob.constOf v) (s'.1, Sz.ad s'.2.2 (Ob.constOf v) 2, s.2.2)
      | .error w s' => if w = 1 then .error () (s'.1, s'.2.2, s.2.2) else Sz.rwRest E r ctx u t (s'.1, s'.2.2, s.2.2) : EStateM.Result Unit Sz.Wk Ob) = .ok w s' := e
    cases q : Sz.ev E 300 (fun x => x) u (s.1, 100, s.2.1) with
    | ok v s1 =>
      rw [q] at e hmv
      cases e
      have ec : AlL L (Sz.ad s1.2.2 (Ob.constOf v) 2) := ec
      obtain ⟨l, f⟩ := i1 v s1 q (ec.dn (CoL.ad _ _ _))
      refine ⟨[], (List.append_nil _).symm, NtsOk.nil, fun s2 rest hs er => ?_⟩
      obtain ⟨z, z1, z2, z3, z4⟩ := f (s2.1, 100, s2.2.1) hs rfl
      have z4 : s2.1 + s1.1 = z.1 + s.1 := z4
      refine ⟨(z.1, Sz.ad z.2.2 (Ob.constOf v) 2, s2.2.2), ?_, er, ?_, by show s2.1 + s1.1 ≤ z.1 + s.1; omega⟩
      · show (match Sz.ev E 300 (fun x => x) u (s2.1, 100, s2.2.1) with
          | .ok v s' => .ok (Ob.constOf v) (s'.1, Sz.ad s'.2.2 (Ob.constOf v) 2, s2.2.2)
          | .error w s' => if w = 1 then .error () (s'.1, s'.2.2, s2.2.2) else Sz.rwRest E r' ctx u t (s'.1, s'.2.2, s2.2.2) : EStateM.Result Unit Sz.Wk Ob) = _
        rw [z1]
      · exact NwL.tr z3 (NwL.ad (AlL.hd ec))
    | error x s1 =>
      rw [q] at e hmv
      have e : (if x = 1 then EStateM.Result.error () (s1.1, s1.2.2, s.2.2) else Sz.rwRest E r ctx u t (s1.1, s1.2.2, s.2.2)) = .ok w s' := e
      by_cases c : x = 1
      · rw [if_pos c] at e; cases e
      rw [if_neg c] at e
      have c2 : CoL s1.2.2 s'.2.1 := (hR.at e).1
      obtain ⟨l, f⟩ := i2 x s1 q c (ec.dn c2)
      have l : s1.1 ≤ s.1 := l
      obtain ⟨t', e2, n2, f2⟩ := hRR (s1.1, s1.2.2, s.2.2) w s' (by show s1.1 ≤ 1000; omega) e ec
      refine ⟨t', e2, n2, fun s2 rest hs er => ?_⟩
      obtain ⟨z, z1, z2, z3, z4⟩ := f (s2.1, 100, s2.2.1) hs rfl
      have z4 : s2.1 + s1.1 = z.1 + s.1 := z4
      obtain ⟨y, y1, y2, y3, y4⟩ := f2 (z.1, z.2.2, s2.2.2) rest (by show s1.1 ≤ z.1; omega) er
      have y4 : z.1 + s'.1 ≤ y.1 + s1.1 := y4
      refine ⟨y, ?_, y2, NwL.tr z3 y3, by omega⟩
      show (match Sz.ev E 300 (fun x => x) u (s2.1, 100, s2.2.1) with
          | .ok v s' => .ok (Ob.constOf v) (s'.1, Sz.ad s'.2.2 (Ob.constOf v) 2, s2.2.2)
          | .error w s' => if w = 1 then .error () (s'.1, s'.2.2, s2.2.2) else Sz.rwRest E r' ctx u t (s'.1, s'.2.2, s2.2.2) : EStateM.Result Unit Sz.Wk Ob) = _
      rw [z1]
      show (if x = 1 then _ else Sz.rwRest E r' ctx u t (z.1, z.2.2, s2.2.2)) = _
      rw [if_neg c]
      exact y1
theorem rwJoin_mono_z [DecidableEq Ob] {t : Bool} {a b c : Ob} : Mono_z (Sz.rwJoin t a b c) := by
  unfold Sz.rwJoin
  exact Mono_z.ite Mono_z.ret (Mono_z.ite Mono_z.ret (Mono_z.ite Mono_z.big Mono_z.big))
theorem rm_join [DecidableEq Ob] {t : Bool} {a b c : Ob} : RZ L P (Sz.rwJoin t a b c) (Sz.rwJoin t a b c) := by
  unfold Sz.rwJoin
  exact RZ.ite RZ.ret (RZ.ite RZ.ret (RZ.ite (RZ.big) (RZ.big)))
theorem rwIf_mono_z [DecidableEq Ob] {r : List Ob → Ob → Bool → Sz.M Ob} (hr : ∀ c o t, Mono_z (r c o t)) {ctx : List Ob} {o a : Ob} {t : Bool} : Mono_z (Sz.rwIf r ctx o a t) := by
  unfold Sz.rwIf
  exact Mono_z.ite (hr _ _ _) (Mono_z.bd Mono_z.pay (fun _ => Mono_z.bd (hr _ _ _) (fun b => Mono_z.bd Mono_z.not (fun nA => Mono_z.bd Mono_z.pay (fun _ => Mono_z.bd (hr _ _ _) (fun c => rwJoin_mono_z))))))
theorem rm_if [DecidableEq Ob] {r r' : List Ob → Ob → Bool → Sz.M Ob} (hr : ∀ c o t, RZ L P (r c o t) (r' c o t)) (hm : ∀ c o t, Mono_z (r c o t)) {ctx : List Ob} {o a : Ob} {t : Bool} : RZ L P (Sz.rwIf r ctx o a t) (Sz.rwIf r' ctx o a t) := by
  unfold Sz.rwIf
  exact RZ.ite (hr _ _ _) (RZ.bd (RZ.pay) (fun _ => RZ.bd (hr _ _ _) (fun b => RZ.bd (RZ.not) (fun nA => RZ.bd (RZ.pay) (fun _ => RZ.bd (hr _ _ _) (fun c => rm_join) (hm _ _ _) (fun c => rwJoin_mono_z)) Mono_z.pay (fun _ => Mono_z.bd (hm _ _ _) (fun c => rwJoin_mono_z))) Mono_z.not (fun nA => Mono_z.bd Mono_z.pay (fun _ => Mono_z.bd (hm _ _ _) (fun c => rwJoin_mono_z)))) (hm _ _ _) (fun b => Mono_z.bd Mono_z.not (fun nA => Mono_z.bd Mono_z.pay (fun _ => Mono_z.bd (hm _ _ _) (fun c => rwJoin_mono_z))))) Mono_z.pay (fun _ => Mono_z.bd (hm _ _ _) (fun b => Mono_z.bd Mono_z.not (fun nA => Mono_z.bd Mono_z.pay (fun _ => Mono_z.bd (hm _ _ _) (fun c => rwJoin_mono_z))))))
theorem rwNot_mono_z [DecidableEq Ob] {ctx : List Ob} {a : Ob} {t : Bool} : Mono_z (Sz.rwNot ctx a t) := by
  unfold Sz.rwNot
  exact Mono_z.bd (Mono_z.ite Mono_z.big Mono_z.not) (fun x => Mono_z.ret)
theorem rm_not [DecidableEq Ob] {ctx : List Ob} {a : Ob} {t : Bool} : RZ L P (Sz.rwNot ctx a t) (Sz.rwNot ctx a t) := by
  unfold Sz.rwNot
  exact RZ.bd (RZ.ite (RZ.big) (RZ.not)) (fun x => RZ.ret) (Mono_z.ite Mono_z.big Mono_z.not) (fun x => Mono_z.ret)
theorem rwStep_mono_z [DecidableEq Ob] {r : List Ob → Ob → Bool → Sz.M Ob} (hr : ∀ c o t, Mono_z (r c o t)) {ctx : List Ob} {o : Ob} {t : Bool} : Mono_z (Sz.rwStep E r ctx o t) := by
  unfold Sz.rwStep
  exact Mono_z.ite Mono_z.ret (Mono_z.ite Mono_z.ret (Mono_z.ite (Mono_z.bd (hr _ _ _) (fun a => rwIf_mono_z hr)) (Mono_z.ite (Mono_z.bd Mono_z.big (fun i => Mono_z.bd Mono_z.big (fun w => hr _ _ _))) (Mono_z.ite (Mono_z.bd (hr _ _ _) (fun a => rwNot_mono_z)) (Mono_z.bd (rwArgs_mono_z (fun o => hr _ _ _) _) (fun as => Mono_z.bd Mono_z.big (fun u => rwApply_mono_z (fun o t => hr _ _ _))))))))
theorem rm_step [DecidableEq Ob] {r r' : List Ob → Ob → Bool → Sz.M Ob} (hr : ∀ c o t, RZ L P (r c o t) (r' c o t)) (hm : ∀ c o t, Mono_z (r c o t)) {ctx : List Ob} {o : Ob} {t : Bool} : RZ L P (Sz.rwStep E r ctx o t) (Sz.rwStep E r' ctx o t) := by
  unfold Sz.rwStep
  exact RZ.ite RZ.ret (RZ.ite RZ.ret (RZ.ite (RZ.bd (hr _ _ _) (fun a => rm_if hr hm) (hm _ _ _) (fun a => rwIf_mono_z hm)) (RZ.ite (RZ.bd (RZ.big) (fun i => RZ.bd (RZ.big) (fun w => hr _ _ _) Mono_z.big (fun w => hm _ _ _)) Mono_z.big (fun i => Mono_z.bd Mono_z.big (fun w => hm _ _ _))) (RZ.ite (RZ.bd (hr _ _ _) (fun a => rm_not) (hm _ _ _) (fun a => rwNot_mono_z)) (RZ.bd (rm_args (fun o => hr _ _ _) (fun o => hm _ _ _) _) (fun as => RZ.bd (RZ.big) (fun u => rm_apply (fun o t => hr _ _ _) (fun o t => hm _ _ _)) Mono_z.big (fun u => rwApply_mono_z (fun o t => hm _ _ _))) (rwArgs_mono_z (fun o => hm _ _ _) _) (fun as => Mono_z.bd Mono_z.big (fun u => rwApply_mono_z (fun o t => hm _ _ _))))))))
theorem asked_mono [DecidableEq Ob] {ctx : List Ob} {o : Ob} {t : Bool} {m : Sz.M Ob} (h : Mono_z m) : Mono_z (Sz.asked ctx o t m) := fun s => by
  have := h (s.1, s.2.1, [])
  unfold Sz.asked
  cases e : m (s.1, s.2.1, []) with
  | ok v s' => rw [e] at this; exact this
  | error x s' => rw [e] at this; exact this
theorem rw_mono_z [DecidableEq Ob] : ∀ (d : Nat) (ctx : List Ob) (o : Ob) (t : Bool), Mono_z (Sz.rw E d ctx o t)
  | 0, _, _, _ => Mono_z.fail
  | d + 1, ctx, o, t => Mono_z.bd Mono_z.tick (fun _ => asked_mono (rwStep_mono_z (rw_mono_z d)))
end
/-- a note is asked again, by itself: it comes out as it is told, at no cost -/
def RpN [DecidableEq Ob] (L : Ob → Prop) (E : Sp.Env) (n : Sz.Nt) (t : List Sz.Nt) : Prop := ∃ ctx, Sz.row ctx = n.1 ∧ ∀ s2, 1000 ≤ s2.1 → s2.2.2 = t → ∃ v s2', Sz.rwStep E Sz.rc ctx n.2.1 n.2.2.1 s2 = .ok v s2' ∧ Sp.fin n.2.2.1 v = n.2.2.2.1 ∧ s2'.2.2 = t.drop n.2.2.2.2 ∧ NwL L s2.2.1 s2'.2.1 ∧ s2.1 ≤ s2'.1 + 999
/-- what was rewritten is recalled, and its notes are asked again -/
theorem rm_rw [DecidableEq Ob] {L : Ob → Prop} {E : Sp.Env} : ∀ (d : Nat) (ctx : List Ob) (o : Ob) (t : Bool), RZ L (RpN L E) (Sz.rw E d ctx o t) (Sz.rc ctx o t)
  | 0, _, _, _ => RZ.fail
  | d + 1, ctx, o, t => fun s v s' s0 e ec => by
    have e : Sp.bd Sz.tick (fun _ => Sz.asked ctx o t (Sz.rwStep E (Sz.rw E d) ctx o t)) s = .ok v s' := e
    unfold Sz.tick at e
    by_cases c0 : s.1 = 0
    · have : Sp.bd (fun s : Sz.Wk => if s.1 = 0 then .error () s else .ok () (s.1 - 1, s.2)) (fun _ => Sz.asked ctx o t (Sz.rwStep E (Sz.rw E d) ctx o t)) s = .error () s := bind_err (if_pos c0)
      rw [this] at e
      cases e
    have : Sp.bd (fun s : Sz.Wk => if s.1 = 0 then .error () s else .ok () (s.1 - 1, s.2)) (fun _ => Sz.asked ctx o t (Sz.rwStep E (Sz.rw E d) ctx o t)) s = Sz.asked ctx o t (Sz.rwStep E (Sz.rw E d) ctx o t) (s.1 - 1, s.2) := bind_ok (if_neg c0)
    rw [this] at e
    unfold Sz.asked at e
    cases q : Sz.rwStep E (Sz.rw E d) ctx o t (s.1 - 1, s.2.1, []) with
    | error x s1 =>
      have e : (match Sz.rwStep E (Sz.rw E d) ctx o t (s.1 - 1, s.2.1, []) with | .ok v s' => EStateM.Result.ok (Sp.fin t v) (s'.1, s'.2.1, s.2.2 ++ (Sz.row ctx, o, t, Sp.fin t v, s'.2.2.length) :: s'.2.2) | .error e s' => .error e s') = .ok v s' := e
      rw [q] at e
      cases e
    | ok a s1 =>
      have e : (match Sz.rwStep E (Sz.rw E d) ctx o t (s.1 - 1, s.2.1, []) with | .ok v s' => EStateM.Result.ok (Sp.fin t v) (s'.1, s'.2.1, s.2.2 ++ (Sz.row ctx, o, t, Sp.fin t v, s'.2.2.length) :: s'.2.2) | .error e s' => .error e s') = .ok v s' := e
      rw [q] at e
      cases e
      have mc := (rwStep_mono_z (E := E) (rw_mono_z (E := E) d)).at q
      have l : s1.1 ≤ s.1 - 1 := mc.2
      obtain ⟨t', e', n', f'⟩ := rm_step (L := L) (P := RpN L E) (E := E) (rm_rw d) (rw_mono_z d) (s.1 - 1, s.2.1, []) a s1 (by show s.1 - 1 ≤ 1000; omega) q ec
      have e' : s1.2.2 = t' := e'
      refine ⟨_, rfl, fun rest i hi => ?_, fun s2 rest hs er => ⟨(s2.1, s2.2.1, rest), ?_, rfl, NwL.rf L _, by show s2.1 + s1.1 ≤ s2.1 + s.1; omega⟩⟩
      · cases i with
        | zero =>
          refine ⟨ctx, rfl, fun s2 h2 h3 => ?_⟩
          have h3 : s2.2.2 = s1.2.2 ++ rest := h3
          obtain ⟨z, z1, z2, z3, z4⟩ := f' s2 rest (by show s.1 - 1 ≤ s2.1; omega) (by rw [h3, e'])
          have z4 : s2.1 + s1.1 ≤ z.1 + (s.1 - 1) := z4
          refine ⟨a, z, z1, rfl, ?_, z3, by omega⟩
          rw [z2]
          show rest = (s1.2.2 ++ rest).drop s1.2.2.length
          rw [List.drop_left]
        | succ i =>
          have hi : i + 1 < s1.2.2.length + 1 := by rw [List.length_cons] at hi; exact hi
          have := n' rest i (by rw [← e']; omega)
          show RpN L E s1.2.2[i] ((s1.2.2 ++ rest).drop (i + 1))
          simp only [← e'] at this
          exact this
      · unfold Sz.rc
        rw [er]
        show (if Sz.row ctx = Sz.row ctx ∧ o = o ∧ t = t then _ else _) = _
        rw [if_pos ⟨rfl, rfl, rfl⟩]
        show EStateM.Result.ok (Sp.fin t a) (s2.1, s2.2.1, (s1.2.2 ++ rest).drop s1.2.2.length) = _
        rw [List.drop_left]
theorem rc_mono [DecidableEq Ob] {ctx : List Ob} {o : Ob} {t : Bool} : Mono_z (Sz.rc ctx o t) := fun s => by
  unfold Sz.rc
  split
  · exact ⟨CoL.rf _, Nat.le_refl _⟩
  · split
    · exact ⟨CoL.rf _, Nat.le_refl _⟩
    · exact ⟨CoL.rf _, Nat.le_refl _⟩
