-- deps: 799982
/-! the replay: without notes it is the specification -/
def pjS [DecidableEq Ob] (s : Sz.Wk) : Sp.Wk := (s.1, s.2.1.1)
def pjR [DecidableEq Ob] {α : Type} (R : EStateM.Result Unit Sz.Wk α) : EStateM.Result Unit Sp.Wk α := match R with | .ok v s => .ok v (pjS s) | .error e s => .error e (pjS s)
def PJ [DecidableEq Ob] {α : Type} (m : Sz.M α) (n : Sp.M α) : Prop := ∀ s, n (pjS s) = pjR (m s)
theorem PJ.ret [DecidableEq Ob] {α : Type} {a : α} : PJ (Sz.ret a) (Sp.ret a) := fun _ => rfl
theorem PJ.fail [DecidableEq Ob] {α : Type} : PJ (Sz.fail (α := α)) (Sp.fail (α := α)) := fun _ => rfl
theorem PJ.tick [DecidableEq Ob] : PJ Sz.tick Sp.tick := fun s => by
  unfold Sz.tick Sp.tick
  by_cases c : s.1 = 0
  · rw [if_pos c, if_pos (show (pjS s).1 = 0 from c)]; rfl
  · rw [if_neg c, if_neg (show ¬ (pjS s).1 = 0 from c)]; rfl
theorem PJ.pay [DecidableEq Ob] {o : Ob} {n : Nat} : PJ (Sz.pay o n) (Sp.pay n) := fun _ => rfl
theorem PJ.big [DecidableEq Ob] {o : Ob} {n : Nat} : PJ (Sz.big o n) (Sp.big o n) := fun s => by
  unfold Sz.big Sp.big
  by_cases c : 120 < Ob.sz o
  · rw [if_pos c, if_pos c]; rfl
  · rw [if_neg c, if_neg c]; rfl
theorem PJ.bd [DecidableEq Ob] {α β : Type} {m : Sz.M α} {n : Sp.M α} {k : α → Sz.M β} {l : α → Sp.M β} (h : PJ m n) (g : ∀ a, PJ (k a) (l a)) : PJ (Sp.bd m k) (Sp.bd n l) := fun s => by
  have h1 := h s
  cases e : m s with
  | ok a s1 =>
    rw [e] at h1
    rw [bind_ok e, bind_ok h1]
    exact g a s1
  | error x s1 =>
    rw [e] at h1
    rw [bind_err e, bind_err h1]
    rfl
theorem PJ.ite [DecidableEq Ob] {α : Type} {c : Prop} [Decidable c] {m m' : Sz.M α} {n n' : Sp.M α} (h : PJ m n) (g : PJ m' n') : PJ (if c then m else m') (if c then n else n') := by
  by_cases q : c
  · rw [if_pos q, if_pos q]; exact h
  · rw [if_neg q, if_neg q]; exact g
theorem PJ.not [DecidableEq Ob] {o : Ob} : PJ (Sz.mkNot o) (Sp.mkNot o) := by
  unfold Sz.mkNot Sp.mkNot
  exact PJ.ite PJ.ret (PJ.ite PJ.ret (PJ.ite PJ.ret PJ.big))
theorem PJ.fill [DecidableEq Ob] {s : Ob → Ob} {o : Ob} : PJ (Sz.fill s o) (Sp.fill s o) := PJ.big
section
variable {E : Sp.Env}
theorem pj_hyps [DecidableEq Ob] {r : Ob → Sz.M Ob} {r' : Ob → Sp.M Ob} {s : Ob → Ob} (hr : ∀ o, PJ (r o) (r' o)) : ∀ l : List Ob, PJ (Sz.rwHyps r s l) (Sp.rwHyps r' s l)
  | [] => PJ.ret
  | a :: l => PJ.bd PJ.fill (fun x => PJ.bd (hr x) (fun v => PJ.ite (pj_hyps hr l) PJ.ret))
theorem pj_args [DecidableEq Ob] {r : Ob → Sz.M Ob} {r' : Ob → Sp.M Ob} (hr : ∀ o, PJ (r o) (r' o)) : ∀ l : List Ob, PJ (Sz.rwArgs r l) (Sp.rwArgs r' l)
  | [] => PJ.ret
  | a :: l => PJ.bd (hr a) (fun v => PJ.bd (pj_args hr l) (fun vs => PJ.ret))
theorem pj_unf [DecidableEq Ob] {r : Ob → Bool → Sz.M Ob} {r' : Ob → Bool → Sp.M Ob} (hr : ∀ o t, PJ (r o t) (r' o t)) {u : Ob} {t : Bool} : PJ (Sz.unf E r u t) (Sp.unf E r' u t) := by
  unfold Sz.unf Sp.unf
  cases E.dfn (Ob.lft u) with
  | none => exact PJ.ret
  | some D =>
    refine PJ.ite (PJ.bd PJ.fill (fun x => hr x t)) (PJ.ite (PJ.bd PJ.fill (fun q => PJ.bd (hr q true) (fun a => ?_))) PJ.ret)
    exact PJ.ite (PJ.bd PJ.fill (fun x => hr x t)) PJ.ret
theorem pj_rules [DecidableEq Ob] {r : Ob → Bool → Sz.M Ob} {r' : Ob → Bool → Sp.M Ob} (hr : ∀ o t, PJ (r o t) (r' o t)) {u : Ob} {t : Bool} : ∀ l : List Sp.Thm, PJ (Sz.rwRules E r u t l) (Sp.rwRules E r' u t l)
  | [] => pj_unf hr
  | k :: ks => by
    have ih := pj_rules hr (u := u) (t := t) ks
    unfold Sz.rwRules Sp.rwRules
    cases Sp.can E k t with
    | none => exact ih
    | some R =>
      dsimp only
      cases Ob.mt R.lhs u with
      | none => exact ih
      | some l =>
        dsimp only
        exact PJ.bd PJ.tick (fun _ => PJ.bd (PJ.ite (PJ.bd PJ.fill (fun x => PJ.ret)) PJ.ret) (fun g => PJ.ite (PJ.bd (pj_hyps (fun o => hr o true) _) (fun b => PJ.ite (PJ.bd PJ.fill (fun x => hr x t)) ih)) ih))
theorem pj_plain [DecidableEq Ob] (u : Ob) : (∃ o, Sz.plain u = some (.inl o) ∧ Sp.plain u = some (.inl o)) ∨ (∃ m m', Sz.plain u = some (.inr m) ∧ Sp.plain u = some (.inr m') ∧ PJ m m') ∨ (Sz.plain u = none ∧ Sp.plain u = none) := by
  have b2 : ∀ a b c d e : Ob, PJ (Sp.bd (Sz.mk2 a b c) fun x => Sp.bd (Sz.mk2 a d e) fun y => Sz.mk3 Ob.ifS x y Ob.nil) (Sp.bd (Sp.mk2 a b c) fun x => Sp.bd (Sp.mk2 a d e) fun y => Sp.mk3 Ob.ifS x y Ob.nil) := fun a b c d e => PJ.bd PJ.big (fun x => PJ.bd PJ.big (fun y => PJ.big))
  unfold Sz.plain Sp.plain
  by_cases c1 : Ob.lft u = Ob.equal
  · rw [if_pos c1, if_pos c1]
    by_cases d1 : Ob.item u 1 = Ob.item u 2
    · rw [if_pos d1, if_pos d1]; exact Or.inl ⟨_, rfl, rfl⟩
    rw [if_neg d1, if_neg d1]
    by_cases d2 : (Ob.isCallOf (Ob.item u 1) Ob.cons && Ob.isCallOf (Ob.item u 2) Ob.cons) = true
    · rw [if_pos d2, if_pos d2]; exact Or.inr (Or.inl ⟨_, _, rfl, rfl, b2 _ _ _ _ _⟩)
    rw [if_neg d2, if_neg d2]
    by_cases d3 : (Ob.isCallOf (Ob.item u 1) Ob.cons && Ob.isConst (Ob.item u 2) && !Ob.isPr (Ob.valOf (Ob.item u 2))) = true
    · rw [if_pos d3, if_pos d3]; exact Or.inl ⟨_, rfl, rfl⟩
    rw [if_neg d3, if_neg d3]
    by_cases d4 : (Ob.isCallOf (Ob.item u 2) Ob.cons && Ob.isConst (Ob.item u 1) && !Ob.isPr (Ob.valOf (Ob.item u 1))) = true
    · rw [if_pos d4, if_pos d4]; exact Or.inl ⟨_, rfl, rfl⟩
    rw [if_neg d4, if_neg d4]; exact Or.inr (Or.inr ⟨rfl, rfl⟩)
  rw [if_neg c1, if_neg c1]
  by_cases c2 : Ob.lft u = Ob.less
  · rw [if_pos c2, if_pos c2]
    by_cases d1 : Ob.item u 1 = Ob.item u 2 ∨ Ob.item u 2 = Ob.nat 0
    · rw [if_pos d1, if_pos d1]; exact Or.inl ⟨_, rfl, rfl⟩
    rw [if_neg d1, if_neg d1]
    by_cases d2 : (Ob.isCallOf (Ob.item u 1) Ob.height && Ob.isCallOf (Ob.item u 2) Ob.height && (Ob.isCallOf (Ob.item (Ob.item u 1) 1) Ob.car || Ob.isCallOf (Ob.item (Ob.item u 1) 1) Ob.cdr) && Ob.item (Ob.item (Ob.item u 1) 1) 1 = Ob.item (Ob.item u 2) 1) = true
    · rw [if_pos d2, if_pos d2]; exact Or.inr (Or.inl ⟨_, _, rfl, rfl, PJ.big⟩)
    rw [if_neg d2, if_neg d2]
    by_cases d3 : (Ob.isCallOf (Ob.item u 1) Ob.minus && Ob.item (Ob.item u 1) 1 = Ob.item u 2 && Ob.isNat (Ob.item (Ob.item u 1) 2) && decide (0 < Ob.num (Ob.item (Ob.item u 1) 2))) = true
    · rw [if_pos d3, if_pos d3]; exact Or.inr (Or.inl ⟨_, _, rfl, rfl, PJ.bd PJ.pay (fun _ => PJ.big)⟩)
    rw [if_neg d3, if_neg d3]; exact Or.inr (Or.inr ⟨rfl, rfl⟩)
  rw [if_neg c2, if_neg c2]
  by_cases c3 : Ob.lft u = Ob.car
  · rw [if_pos c3, if_pos c3]
    by_cases d1 : Ob.isCallOf (Ob.item u 1) Ob.cons = true
    · rw [if_pos d1, if_pos d1]; exact Or.inl ⟨_, rfl, rfl⟩
    · rw [if_neg d1, if_neg d1]; exact Or.inr (Or.inr ⟨rfl, rfl⟩)
  rw [if_neg c3, if_neg c3]
  by_cases c4 : Ob.lft u = Ob.cdr
  · rw [if_pos c4, if_pos c4]
    by_cases d1 : Ob.isCallOf (Ob.item u 1) Ob.cons = true
    · rw [if_pos d1, if_pos d1]; exact Or.inl ⟨_, rfl, rfl⟩
    · rw [if_neg d1, if_neg d1]; exact Or.inr (Or.inr ⟨rfl, rfl⟩)
  rw [if_neg c4, if_neg c4]
  by_cases c5 : Ob.lft u = Ob.consp
  · rw [if_pos c5, if_pos c5]
    by_cases d1 : Ob.isCallOf (Ob.item u 1) Ob.cons = true
    · rw [if_pos d1, if_pos d1]; exact Or.inl ⟨_, rfl, rfl⟩
    rw [if_neg d1, if_neg d1]
    by_cases d2 : Sp.isNumd (Ob.item u 1) = true
    · rw [if_pos d2, if_pos d2]; exact Or.inl ⟨_, rfl, rfl⟩
    · rw [if_neg d2, if_neg d2]; exact Or.inr (Or.inr ⟨rfl, rfl⟩)
  rw [if_neg c5, if_neg c5]
  by_cases c6 : Ob.lft u = Ob.natp
  · rw [if_pos c6, if_pos c6]
    by_cases d1 : Ob.isCallOf (Ob.item u 1) Ob.cons = true
    · rw [if_pos d1, if_pos d1]; exact Or.inl ⟨_, rfl, rfl⟩
    rw [if_neg d1, if_neg d1]
    by_cases d2 : Sp.isNumd (Ob.item u 1) = true
    · rw [if_pos d2, if_pos d2]; exact Or.inl ⟨_, rfl, rfl⟩
    · rw [if_neg d2, if_neg d2]; exact Or.inr (Or.inr ⟨rfl, rfl⟩)
  rw [if_neg c6, if_neg c6]
  by_cases c7 : Ob.lft u = Ob.symbolp
  · rw [if_pos c7, if_pos c7]
    by_cases d1 : (Ob.isCallOf (Ob.item u 1) Ob.cons || Sp.isNumd (Ob.item u 1)) = true
    · rw [if_pos d1, if_pos d1]; exact Or.inl ⟨_, rfl, rfl⟩
    · rw [if_neg d1, if_neg d1]; exact Or.inr (Or.inr ⟨rfl, rfl⟩)
  rw [if_neg c7, if_neg c7]; exact Or.inr (Or.inr ⟨rfl, rfl⟩)
theorem pj_rest [DecidableEq Ob] {r : Ob → Bool → Sz.M Ob} {r' : Ob → Bool → Sp.M Ob} (hr : ∀ o t, PJ (r o t) (r' o t)) {ctx : List Ob} {u : Ob} {t : Bool} : PJ (Sz.rwRest E r ctx u t) (Sp.rwRest E r' ctx u t) := by
  unfold Sz.rwRest Sp.rwRest
  rcases pj_plain u with ⟨o, e, e'⟩ | ⟨m, m', e, e', q⟩ | ⟨e, e'⟩
  · rw [e, e']; exact PJ.ret
  · rw [e, e']; exact PJ.bd q (fun x => hr x t)
  · rw [e, e']; exact PJ.ite (pj_rules hr _) PJ.ret
/-! evaluation -/
def pjK [DecidableEq Ob] (s : Sz.Ek) : Sp.Ek := (s.1, s.2.1, s.2.2.1)
def pjE [DecidableEq Ob] {α : Type} (R : EStateM.Result Int Sz.Ek α) : EStateM.Result Int Sp.Ek α := match R with | .ok v s => .ok v (pjK s) | .error e s => .error e (pjK s)
def PJE [DecidableEq Ob] {α : Type} (m : Sz.ME α) (n : Sp.ME α) : Prop := ∀ s, n (pjK s) = pjE (m s)
theorem PJE.bd [DecidableEq Ob] {α β : Type} {m : Sz.ME α} {n : Sp.ME α} {k : α → Sz.ME β} {l : α → Sp.ME β} (h : PJE m n) (g : ∀ a, PJE (k a) (l a)) : PJE (Sp.bd m k) (Sp.bd n l) := fun s => by
  have h1 := h s
  cases e : m s with
  | ok a s1 =>
    rw [e] at h1
    rw [bind_ok e, bind_ok h1]
    exact g a s1
  | error x s1 =>
    rw [e] at h1
    rw [bind_err e, bind_err h1]
    rfl
theorem pje_args [DecidableEq Ob] {r : Ob → Sz.ME Ob} {r' : Ob → Sp.ME Ob} (h : ∀ o, PJE (r o) (r' o)) : ∀ l : List Ob, PJE (Sz.evArgs r l) (Sp.evArgs r' l)
  | [] => fun _ => rfl
  | a :: l => PJE.bd (h a) (fun v => PJE.bd (pje_args h l) (fun vs => fun _ => rfl))
theorem pj_ev [DecidableEq Ob] : ∀ (d : Nat) (env : Ob → Ob) (o : Ob), PJE (Sz.ev E d env o) (Sp.ev E d env o)
  | 0, env, o => by
    unfold Sz.ev Sp.ev
    by_cases c1 : Ob.isConst o = true
    · rw [if_pos c1, if_pos c1]; exact fun _ => rfl
    rw [if_neg c1, if_neg c1]
    by_cases c2 : (!Ob.isCall o) = true
    · rw [if_pos c2, if_pos c2]; exact fun _ => rfl
    rw [if_neg c2, if_neg c2]; exact fun _ => rfl
  | d + 1, env, o => by
    unfold Sz.ev Sp.ev
    by_cases c1 : Ob.isConst o = true
    · rw [if_pos c1, if_pos c1]; exact fun _ => rfl
    rw [if_neg c1, if_neg c1]
    by_cases c2 : (!Ob.isCall o) = true
    · rw [if_pos c2, if_pos c2]; exact fun _ => rfl
    rw [if_neg c2, if_neg c2]
    intro s
    dsimp only
    by_cases s1 : s.2.1 = 0
    · rw [if_pos s1, if_pos (show (pjK s).2.1 = 0 from s1)]; rfl
    rw [if_neg s1, if_neg (show ¬ (pjK s).2.1 = 0 from s1)]
    by_cases s0 : s.1 = 0
    · rw [if_pos s0, if_pos (show (pjK s).1 = 0 from s0)]; rfl
    rw [if_neg s0, if_neg (show ¬ (pjK s).1 = 0 from s0)]
    have key : ∀ (m : Sz.ME Ob) (n : Sp.ME Ob), PJE m n → n ((pjK s).1 - 1, (pjK s).2.1 - 1, (pjK s).2.2) = pjE (m (s.1 - 1, s.2.1 - 1, s.2.2)) := fun m n h => h (s.1 - 1, s.2.1 - 1, s.2.2)
    refine key _ _ ?_
    by_cases c3 : Ob.lft o = Ob.ifS
    · rw [if_pos c3, if_pos c3]
      exact PJE.bd (pj_ev d env _) (fun a => pj_ev d env _)
    · rw [if_neg c3, if_neg c3]
      refine PJE.bd (pje_args (pj_ev d env) _) (fun vs => ?_)
      cases E.dfn (Ob.lft o) with
      | some D => exact pj_ev d _ _
      | none =>
        cases Ob.base (Ob.lft o) (vs.getD 0 Ob.nil) (vs.getD 1 Ob.nil) with
        | some v => exact fun _ => rfl
        | none => exact fun _ => rfl
theorem pj_apply [DecidableEq Ob] {r : Ob → Bool → Sz.M Ob} {r' : Ob → Bool → Sp.M Ob} (hr : ∀ o t, PJ (r o t) (r' o t)) {ctx : List Ob} {u : Ob} {t : Bool} : PJ (Sz.rwApply E r ctx u t) (Sp.rwApply E r' ctx u t) := by
  have hR : PJ (Sz.rwRest E r ctx u t) (Sp.rwRest E r' ctx u t) := pj_rest hr
  unfold Sz.rwApply Sp.rwApply
  refine PJ.ite ?_ hR
  cases E.dfn (Ob.lft u) with
  | none =>
    cases Ob.base (Ob.lft u) (Ob.valOf (Ob.item u 1)) (Ob.valOf (Ob.item u 2)) with
    | some v => exact fun _ => rfl
    | none => exact hR
  | some D =>
    intro s
    have hv := pj_ev (E := E) 300 (fun x => x) u (s.1, 100, s.2.1)
    have hv : Sp.ev E 300 (fun x => x) u (s.1, 100, s.2.1.1) = pjE (Sz.ev E 300 (fun x => x) u (s.1, 100, s.2.1)) := hv
    show (match Sp.ev E 300 (fun x => x) u (s.1, 100, s.2.1.1) with
      | .ok v s' => .ok (Ob.constOf v) (s'.1, s'.2.2 + 2)
      | .error w s' => if w = 1 then .error () (s'.1, s'.2.2) else Sp.rwRest E r' ctx u t (s'.1, s'.2.2)) = pjR (match Sz.ev E 300 (fun x => x) u (s.1, 100, s.2.1) with
      | .ok v s' => .ok (Ob.constOf v) (s'.1, Sz.ad s'.2.2 (Ob.constOf v) 2, s.2.2)
      | .error w s' => if w = 1 then .error () (s'.1, s'.2.2, s.2.2) else Sz.rwRest E r ctx u t (s'.1, s'.2.2, s.2.2))
    rw [hv]
    cases Sz.ev E 300 (fun x => x) u (s.1, 100, s.2.1) with
    | ok v s' => rfl
    | error w s' =>
      show (if w = 1 then .error () (s'.1, s'.2.2.1) else Sp.rwRest E r' ctx u t (s'.1, s'.2.2.1)) = pjR (if w = 1 then .error () (s'.1, s'.2.2, s.2.2) else Sz.rwRest E r ctx u t (s'.1, s'.2.2, s.2.2))
      by_cases c : w = 1
      · rw [if_pos c, if_pos c]; rfl
      · rw [if_neg c, if_neg c]
        exact hR (s'.1, s'.2.2, s.2.2)
theorem pj_join [DecidableEq Ob] {t : Bool} {a b c : Ob} : PJ (Sz.rwJoin t a b c) (Sp.rwJoin t a b c) := by
  unfold Sz.rwJoin Sp.rwJoin
  exact PJ.ite PJ.ret (PJ.ite PJ.ret (PJ.ite PJ.big PJ.big))
theorem pj_if [DecidableEq Ob] {r : List Ob → Ob → Bool → Sz.M Ob} {r' : List Ob → Ob → Bool → Sp.M Ob} (hr : ∀ c o t, PJ (r c o t) (r' c o t)) {ctx : List Ob} {o a : Ob} {t : Bool} : PJ (Sz.rwIf r ctx o a t) (Sp.rwIf r' ctx o a t) := by
  unfold Sz.rwIf Sp.rwIf
  exact PJ.ite (hr _ _ _) (PJ.bd PJ.pay (fun _ => PJ.bd (hr _ _ _) (fun b => PJ.bd PJ.not (fun nA => PJ.bd PJ.pay (fun _ => PJ.bd (hr _ _ _) (fun c => pj_join))))))
theorem pj_not [DecidableEq Ob] {ctx : List Ob} {a : Ob} {t : Bool} : PJ (Sz.rwNot ctx a t) (Sp.rwNot ctx a t) := by
  unfold Sz.rwNot Sp.rwNot
  exact PJ.bd (PJ.ite PJ.big PJ.not) (fun x => PJ.ret)
theorem pj_step [DecidableEq Ob] {r : List Ob → Ob → Bool → Sz.M Ob} {r' : List Ob → Ob → Bool → Sp.M Ob} (hr : ∀ c o t, PJ (r c o t) (r' c o t)) {ctx : List Ob} {o : Ob} {t : Bool} : PJ (Sz.rwStep E r ctx o t) (Sp.rwStep E r' ctx o t) := by
  unfold Sz.rwStep Sp.rwStep
  exact PJ.ite PJ.ret (PJ.ite PJ.ret (PJ.ite (PJ.bd (hr _ _ _) (fun a => pj_if hr)) (PJ.ite (PJ.bd PJ.big (fun i => PJ.bd PJ.big (fun w => hr _ _ _))) (PJ.ite (PJ.bd (hr _ _ _) (fun a => pj_not)) (PJ.bd (pj_args (fun o => hr _ _ _) _) (fun as => PJ.bd PJ.big (fun u => pj_apply (fun o t => hr _ _ _))))))))
theorem pj_rw [DecidableEq Ob] : ∀ (d : Nat) (ctx : List Ob) (o : Ob) (t : Bool), PJ (Sz.rw E d ctx o t) (Sp.rw E d ctx o t)
  | 0, _, _, _ => PJ.fail
  | d + 1, ctx, o, t => by
    refine PJ.bd PJ.tick (fun _ => fun s => ?_)
    have h := pj_step (E := E) (pj_rw d) (ctx := ctx) (o := o) (t := t) (s.1, s.2.1, [])
    have h : Sp.rwStep E (Sp.rw E d) ctx o t (pjS s) = pjR (Sz.rwStep E (Sz.rw E d) ctx o t (s.1, s.2.1, [])) := h
    unfold Sz.asked
    cases e : Sz.rwStep E (Sz.rw E d) ctx o t (s.1, s.2.1, []) with
    | ok v s' =>
      rw [e] at h
      rw [bind_ok h]
      rfl
    | error x s' =>
      rw [e] at h
      rw [bind_err h]
      rfl
end
