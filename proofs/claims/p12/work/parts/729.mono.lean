-- deps: 728
/-! rewriting never unmakes -/
theorem bd_ite [DecidableEq Ob] {α β : Type} {c : Prop} [Decidable c] (m n : Sp.M α) (f : α → Sp.M β) : Sp.bd (if c then m else n) f = if c then Sp.bd m f else Sp.bd n f := by split <;> rfl
theorem Mono.fill [DecidableEq Ob] {s : Ob → Ob} {o : Ob} : Mono (Sp.fill s o) := Mono.big
theorem plain_mono [DecidableEq Ob] {u : Ob} {m : Sp.M Ob} (h : Sp.plain u = some (.inr m)) : Mono m := by
  unfold Sp.plain at h
  repeat' split at h
  all_goals first
    | (have e := Sum.inr.inj (Option.some.inj h); rw [← e]; first | exact Mono.bd Mono.big (fun _ => Mono.bd Mono.big (fun _ => Mono.big)) | exact Mono.bd Mono.pay (fun _ => Mono.big) | exact Mono.big)
    | (cases h; done)
theorem rwHyps_mono [DecidableEq Ob] {r : Ob → Sp.M Ob} {s : Ob → Ob} (hr : ∀ o, Mono (r o)) : ∀ l : List Ob, Mono (Sp.rwHyps r s l)
  | [] => Mono.ret
  | h :: l => Mono.bd Mono.fill (fun x => Mono.bd (hr x) (fun v => Mono.ite (rwHyps_mono hr l) Mono.ret))
theorem rwArgs_mono [DecidableEq Ob] {r : Ob → Sp.M Ob} (hr : ∀ o, Mono (r o)) : ∀ l : List Ob, Mono (Sp.rwArgs r l)
  | [] => Mono.ret
  | a :: l => Mono.bd (hr a) (fun v => Mono.bd (rwArgs_mono hr l) (fun vs => Mono.ret))
theorem unf_mono [DecidableEq Ob] {E : Sp.Env} {r : Ob → Bool → Sp.M Ob} (hr : ∀ o t, Mono (r o t)) {u : Ob} {t : Bool} : Mono (Sp.unf E r u t) := by
  unfold Sp.unf
  split
  · exact Mono.ret
  · refine Mono.ite (Mono.bd Mono.fill (fun x => hr x t)) (Mono.ite (Mono.bd Mono.fill (fun q => Mono.bd (hr q true) (fun a => ?_))) Mono.ret)
    exact Mono.ite (Mono.bd Mono.fill (fun x => hr x t)) Mono.ret
theorem rwRules_mono [DecidableEq Ob] {E : Sp.Env} {r : Ob → Bool → Sp.M Ob} (hr : ∀ o t, Mono (r o t)) {u : Ob} {t : Bool} : ∀ l : List Sp.Thm, Mono (Sp.rwRules E r u t l)
  | [] => unf_mono hr
  | k :: ks => by
    have ih := rwRules_mono (E := E) hr (u := u) (t := t) ks
    unfold Sp.rwRules
    split
    · exact ih
    · split
      · exact ih
      · refine Mono.bd Mono.tick (fun _ => Mono.bd (Mono.ite (Mono.bd Mono.fill (fun x => Mono.ret)) Mono.ret) (fun g => Mono.ite (Mono.bd (rwHyps_mono (fun o => hr o true) _) (fun b => Mono.ite (Mono.bd Mono.fill (fun x => hr x t)) ih)) ih))
theorem rwRest_mono [DecidableEq Ob] {E : Sp.Env} {r : Ob → Bool → Sp.M Ob} (hr : ∀ o t, Mono (r o t)) {ctx : List Ob} {u : Ob} {t : Bool} : Mono (Sp.rwRest E r ctx u t) := by
  unfold Sp.rwRest
  split
  · exact Mono.ret
  · rename_i m h
    exact Mono.bd (plain_mono h) (fun x => hr x t)
  · exact Mono.ite (rwRules_mono hr _) Mono.ret
theorem rwApply_mono [DecidableEq Ob] {E : Sp.Env} {r : Ob → Bool → Sp.M Ob} (hr : ∀ o t, Mono (r o t)) {ctx : List Ob} {u : Ob} {t : Bool} : Mono (Sp.rwApply E r ctx u t) := by
  have h := rwRest_mono (E := E) hr (ctx := ctx) (u := u) (t := t)
  unfold Sp.rwApply
  refine Mono.ite ?_ h
  split
  · split
    · exact fun s => by show s.2 ≤ s.2 + 3; omega
    · exact h
  · intro s
    have hm := (ev_mon (E := E) 300 (fun x => x) u (s.1, 100, s.2)).1
    show s.2 ≤ cntR (match Sp.ev E 300 (fun x => x) u (s.1, 100, s.2) with | .ok v s' => .ok (Ob.constOf v) (s'.1, s'.2.2 + 2) | .error w s' => if w = 1 then .error () (s'.1, s'.2.2) else Sp.rwRest E r ctx u t (s'.1, s'.2.2))
    cases e : Sp.ev E 300 (fun x => x) u (s.1, 100, s.2) with
    | ok v s' =>
      rw [e] at hm
      have hm : s.2 ≤ s'.2.2 := hm
      show s.2 ≤ s'.2.2 + 2
      omega
    | error w s' =>
      rw [e] at hm
      have hm : s.2 ≤ s'.2.2 := hm
      show s.2 ≤ cntR (if w = 1 then .error () (s'.1, s'.2.2) else Sp.rwRest E r ctx u t (s'.1, s'.2.2))
      split
      · exact hm
      · exact Nat.le_trans hm (h (s'.1, s'.2.2))
theorem rwJoin_mono [DecidableEq Ob] {t : Bool} {a b c : Ob} : Mono (Sp.rwJoin t a b c) := by
  unfold Sp.rwJoin
  exact Mono.ite Mono.ret (Mono.ite Mono.ret (Mono.ite Mono.big Mono.big))
theorem rwIf_mono [DecidableEq Ob] {r : List Ob → Ob → Bool → Sp.M Ob} (hr : ∀ c o t, Mono (r c o t)) {ctx : List Ob} {o a : Ob} {t : Bool} : Mono (Sp.rwIf r ctx o a t) := by
  unfold Sp.rwIf
  exact Mono.ite (hr _ _ _) (Mono.bd Mono.pay (fun _ => Mono.bd (hr _ _ _) (fun b => Mono.bd Mono.not (fun nA => Mono.bd Mono.pay (fun _ => Mono.bd (hr _ _ _) (fun c => rwJoin_mono))))))
theorem rwNot_mono [DecidableEq Ob] {ctx : List Ob} {a : Ob} {t : Bool} : Mono (Sp.rwNot ctx a t) := by
  unfold Sp.rwNot
  exact Mono.bd (Mono.ite Mono.big Mono.not) (fun x => Mono.ret)
theorem rwStep_mono [DecidableEq Ob] {E : Sp.Env} {r : List Ob → Ob → Bool → Sp.M Ob} (hr : ∀ c o t, Mono (r c o t)) {ctx : List Ob} {o : Ob} {t : Bool} : Mono (Sp.rwStep E r ctx o t) := by
  unfold Sp.rwStep
  refine Mono.ite Mono.ret (Mono.ite Mono.ret (Mono.ite (Mono.bd (hr _ _ _) (fun a => rwIf_mono hr)) (Mono.ite (Mono.bd Mono.big (fun i => Mono.bd Mono.big (fun w => hr _ _ _))) (Mono.ite (Mono.bd (hr _ _ _) (fun a => rwNot_mono)) (Mono.bd (rwArgs_mono (fun o => hr _ _ _) _) (fun as => Mono.bd Mono.big (fun u => rwApply_mono (fun o t => hr _ _ _))))))))
theorem rw_mono [DecidableEq Ob] {E : Sp.Env} : ∀ (d : Nat) (ctx : List Ob) (o : Ob) (t : Bool), Mono (Sp.rw E d ctx o t)
  | 0, _, _, _ => Mono.fail
  | d + 1, ctx, o, t => Mono.bd Mono.tick (fun _ => Mono.bd (rwStep_mono (rw_mono d)) (fun v => Mono.ret))
