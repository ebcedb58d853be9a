-- deps: 799982
/-! the replay: no more notes than STEPS -/
def Tlz [DecidableEq Ob] {α : Type} (m : Sz.M α) : Prop := ∀ s v s', m s = .ok v s' → s'.2.2.length + s'.1 ≤ s.2.2.length + s.1
theorem Tlz.ret [DecidableEq Ob] {α : Type} {a : α} : Tlz (Sz.ret a) := fun s v s' e => by cases e; exact Nat.le_refl _
theorem Tlz.fail [DecidableEq Ob] {α : Type} : Tlz (Sz.fail (α := α)) := fun s v s' e => by cases e
theorem Tlz.pay [DecidableEq Ob] {o : Ob} {n : Nat} : Tlz (Sz.pay o n) := fun s v s' e => by cases e; exact Nat.le_refl _
theorem Tlz.tick [DecidableEq Ob] : Tlz Sz.tick := fun s v s' e => by
  unfold Sz.tick at e
  split at e
  · cases e
  · cases e
    show s.2.2.length + (s.1 - 1) ≤ s.2.2.length + s.1
    omega
theorem Tlz.big [DecidableEq Ob] {o : Ob} {n : Nat} : Tlz (Sz.big o n) := fun s v s' e => by
  unfold Sz.big at e
  split at e
  · cases e
  · cases e; exact Nat.le_refl _
theorem Tlz.bd [DecidableEq Ob] {α β : Type} {m : Sz.M α} {k : α → Sz.M β} (h : Tlz m) (g : ∀ a, Tlz (k a)) : Tlz (Sp.bd m k) := fun s v s' e => by
  cases q : m s with
  | ok a s1 =>
    rw [bind_ok q] at e
    exact Nat.le_trans (g a s1 v s' e) (h s a s1 q)
  | error x s1 =>
    rw [bind_err q] at e
    cases e
section
variable {E : Sp.Env}
theorem Tlz.ite [DecidableEq Ob] {α : Type} {c : Prop} [Decidable c] {m n : Sz.M α} (h : Tlz m) (g : Tlz n) : Tlz (if c then m else n) := by
  split
  · exact h
  · exact g
theorem Tlz.not [DecidableEq Ob] {o : Ob} : Tlz (Sz.mkNot o) := by
  unfold Sz.mkNot
  exact Tlz.ite Tlz.ret (Tlz.ite Tlz.ret (Tlz.ite Tlz.ret Tlz.big))
theorem Tlz.fill [DecidableEq Ob] {s : Ob → Ob} {o : Ob} : Tlz (Sz.fill s o) := Tlz.big
theorem rwHyps_tl [DecidableEq Ob] {r : Ob → Sz.M Ob} {s : Ob → Ob} (hr : ∀ o, Tlz (r o)) : ∀ l : List Ob, Tlz (Sz.rwHyps r s l)
  | [] => Tlz.ret
  | h :: l => Tlz.bd Tlz.big (fun x => Tlz.bd (hr x) (fun v => Tlz.ite (rwHyps_tl hr l) Tlz.ret))
theorem rwArgs_tl [DecidableEq Ob] {r : Ob → Sz.M Ob} (hr : ∀ o, Tlz (r o)) : ∀ l : List Ob, Tlz (Sz.rwArgs r l)
  | [] => Tlz.ret
  | a :: l => Tlz.bd (hr a) (fun v => Tlz.bd (rwArgs_tl hr l) (fun vs => Tlz.ret))
theorem unf_tl [DecidableEq Ob] {r : Ob → Bool → Sz.M Ob} (hr : ∀ o t, Tlz (r o t)) {u : Ob} {t : Bool} : Tlz (Sz.unf E r u t) := by
  unfold Sz.unf
  split
  · exact Tlz.ret
  · refine Tlz.ite (Tlz.bd Tlz.big (fun x => hr x t)) (Tlz.ite (Tlz.bd Tlz.big (fun q => Tlz.bd (hr q true) (fun a => ?_))) Tlz.ret)
    exact Tlz.ite (Tlz.bd Tlz.big (fun x => hr x t)) Tlz.ret
theorem rwRules_tl [DecidableEq Ob] {r : Ob → Bool → Sz.M Ob} (hr : ∀ o t, Tlz (r o t)) {u : Ob} {t : Bool} : ∀ l : List Sp.Thm, Tlz (Sz.rwRules E r u t l)
  | [] => unf_tl hr
  | k :: ks => by
    have ih := rwRules_tl hr (u := u) (t := t) ks
    unfold Sz.rwRules
    split
    · exact ih
    · split
      · exact ih
      · refine Tlz.bd Tlz.tick (fun _ => Tlz.bd (Tlz.ite (Tlz.bd Tlz.big (fun x => Tlz.ret)) Tlz.ret) (fun g => Tlz.ite (Tlz.bd (rwHyps_tl (fun o => hr o true) _) (fun b => Tlz.ite (Tlz.bd Tlz.big (fun x => hr x t)) ih)) ih))
theorem plain_tl [DecidableEq Ob] {u : Ob} {m : Sz.M Ob} (h : Sz.plain u = some (.inr m)) : Tlz m := by
  unfold Sz.plain at h
  repeat' split at h
  all_goals first
    | (have e := Sum.inr.inj (Option.some.inj h); rw [← e]; first | exact Tlz.bd Tlz.big (fun _ => Tlz.bd Tlz.big (fun _ => Tlz.big)) | exact Tlz.bd Tlz.pay (fun _ => Tlz.big) | exact Tlz.big)
    | (cases h; done)
theorem rwRest_tl [DecidableEq Ob] {r : Ob → Bool → Sz.M Ob} (hr : ∀ o t, Tlz (r o t)) {ctx : List Ob} {u : Ob} {t : Bool} : Tlz (Sz.rwRest E r ctx u t) := by
  unfold Sz.rwRest
  split
  · exact Tlz.ret
  · rename_i m h
    exact Tlz.bd (plain_tl h) (fun x => hr x t)
  · exact Tlz.ite (rwRules_tl hr _) Tlz.ret
theorem rwApply_tl [DecidableEq Ob] {r : Ob → Bool → Sz.M Ob} (hr : ∀ o t, Tlz (r o t)) {ctx : List Ob} {u : Ob} {t : Bool} : Tlz (Sz.rwApply E r ctx u t) := by
  have h : Tlz (Sz.rwRest E r ctx u t) := rwRest_tl hr
  unfold Sz.rwApply
  refine Tlz.ite ?_ h
  split
  · split
    · exact fun s v s' e => by cases e; exact Nat.le_refl _
    · exact h
  · intro s v s' e
    have hm := (ev_mon_z (E := E) 300 (fun x => x) u (s.1, 100, s.2.1)).2.1
    have e : (match Sz.ev E 300 (fun x => x) u (s.1, 100, s.2.1) with | .ok v s' => .ok (Ob.constOf v) (s'.1, Sz.ad s'.2.2 (Ob.constOf v) 2, s.2.2) | .error w s' => if w = 1 then .error () (s'.1, s'.2.2, s.2.2) else Sz.rwRest E r ctx u t (s'.1, s'.2.2, s.2.2) : EStateM.Result Unit Sz.Wk Ob) = .ok v s' := e
    cases q : Sz.ev E 300 (fun x => x) u (s.1, 100, s.2.1) with
    | ok w s1 =>
      rw [q] at hm e
      have hm : s1.1 ≤ s.1 := hm
      cases e
      show s.2.2.length + s1.1 ≤ s.2.2.length + s.1
      omega
    | error w s1 =>
      rw [q] at hm e
      have hm : s1.1 ≤ s.1 := hm
      have e : (if w = 1 then .error () (s1.1, s1.2.2, s.2.2) else Sz.rwRest E r ctx u t (s1.1, s1.2.2, s.2.2)) = .ok v s' := e
      by_cases c : w = 1
      · rw [if_pos c] at e; cases e
      · rw [if_neg c] at e
        have := h _ _ _ e
        have this : s'.2.2.length + s'.1 ≤ s.2.2.length + s1.1 := this
        omega
theorem rwJoin_tl [DecidableEq Ob] {t : Bool} {a b c : Ob} : Tlz (Sz.rwJoin t a b c) := by
  unfold Sz.rwJoin
  exact Tlz.ite Tlz.ret (Tlz.ite Tlz.ret (Tlz.ite Tlz.big Tlz.big))
theorem rwIf_tl [DecidableEq Ob] {r : List Ob → Ob → Bool → Sz.M Ob} (hr : ∀ c o t, Tlz (r c o t)) {ctx : List Ob} {o a : Ob} {t : Bool} : Tlz (Sz.rwIf r ctx o a t) := by
  unfold Sz.rwIf
  exact Tlz.ite (hr _ _ _) (Tlz.bd Tlz.pay (fun _ => Tlz.bd (hr _ _ _) (fun b => Tlz.bd Tlz.not (fun nA => Tlz.bd Tlz.pay (fun _ => Tlz.bd (hr _ _ _) (fun c => rwJoin_tl))))))
theorem rwNot_tl [DecidableEq Ob] {ctx : List Ob} {a : Ob} {t : Bool} : Tlz (Sz.rwNot ctx a t) := by
  unfold Sz.rwNot
  exact Tlz.bd (Tlz.ite Tlz.big Tlz.not) (fun x => Tlz.ret)
theorem rwStep_tl [DecidableEq Ob] {r : List Ob → Ob → Bool → Sz.M Ob} (hr : ∀ c o t, Tlz (r c o t)) {ctx : List Ob} {o : Ob} {t : Bool} : Tlz (Sz.rwStep E r ctx o t) := by
  unfold Sz.rwStep
  exact Tlz.ite Tlz.ret (Tlz.ite Tlz.ret (Tlz.ite (Tlz.bd (hr _ _ _) (fun a => rwIf_tl hr)) (Tlz.ite (Tlz.bd Tlz.big (fun i => Tlz.bd Tlz.big (fun w => hr _ _ _))) (Tlz.ite (Tlz.bd (hr _ _ _) (fun a => rwNot_tl)) (Tlz.bd (rwArgs_tl (fun o => hr _ _ _) _) (fun as => Tlz.bd Tlz.big (fun u => rwApply_tl (fun o t => hr _ _ _))))))))
theorem rw_tl [DecidableEq Ob] : ∀ (d : Nat) (ctx : List Ob) (o : Ob) (t : Bool), Tlz (Sz.rw E d ctx o t)
  | 0, _, _, _ => Tlz.fail
  | d + 1, ctx, o, t => fun s v s' e => by
    have e : Sp.bd Sz.tick (fun _ => Sz.asked ctx o t (Sz.rwStep E (Sz.rw E d) ctx o t)) s = .ok v s' := e
    by_cases c0 : s.1 = 0
    · rw [bind_err (show Sz.tick s = .error () s from if_pos c0)] at e
      cases e
    rw [bind_ok (show Sz.tick s = .ok () (s.1 - 1, s.2) from if_neg c0)] at e
    have e : (match Sz.rwStep E (Sz.rw E d) ctx o t (s.1 - 1, s.2.1, []) with | .ok v s' => EStateM.Result.ok (Sp.fin t v) (s'.1, s'.2.1, s.2.2 ++ (Sz.row ctx, o, t, Sp.fin t v, s'.2.2.length) :: s'.2.2) | .error e s' => .error e s') = .ok v s' := e
    cases q : Sz.rwStep E (Sz.rw E d) ctx o t (s.1 - 1, s.2.1, []) with
    | error x s1 =>
      rw [q] at e
      cases e
    | ok a s1 =>
      rw [q] at e
      cases e
      have := rwStep_tl (E := E) (rw_tl d) _ _ _ q
      have this : s1.2.2.length + s1.1 ≤ 0 + (s.1 - 1) := this
      show (s.2.2 ++ (Sz.row ctx, o, t, Sp.fin t a, s1.2.2.length) :: s1.2.2).length + s1.1 ≤ s.2.2.length + s.1
      rw [List.length_append, List.length_cons]
      omega
end
