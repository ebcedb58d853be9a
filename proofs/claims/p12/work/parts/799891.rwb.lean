-- deps: 799890
/-! rewriting makes at most 117 nodes a STEP -/
def csL [DecidableEq Ob] : List Ob → Int | [] => 0 | h :: l => Ob.csM false h + csL l
theorem csL_pos [DecidableEq Ob] : ∀ l : List Ob, 0 ≤ csL l
  | [] => Int.le_refl _
  | h :: l => by
    have h1 := (csM_it false h).1
    have h2 := csL_pos l
    show 0 ≤ Ob.csM false h + csL l
    omega
def cmL [DecidableEq Ob] : List Ob → Int | [] => 0 | h :: l => cm h + cmL l
theorem cmL_pos [DecidableEq Ob] : ∀ l : List Ob, 0 ≤ cmL l
  | [] => Int.le_refl _
  | h :: l => by
    have h1 := (cm_r h).1
    have h2 := cmL_pos l
    show 0 ≤ cm h + cmL l
    omega
theorem csL_cmL [DecidableEq Ob] : ∀ l : List Ob, csL l ≤ cmL l ∨ 20 ≤ cmL l
  | [] => Or.inl (Int.le_refl _)
  | h :: l => by
    have h0 := (cm_r h).1
    have h2 := cmL_pos l
    have ih := csL_cmL l
    show Ob.csM false h + csL l ≤ cm h + cmL l ∨ 20 ≤ cm h + cmL l
    unfold cm at h0 ⊢
    split at h0
    · next q =>
      rw [if_pos q]
      rcases ih with ih | ih
      · exact Or.inl (by omega)
      · exact Or.inr (by omega)
    · next q =>
      rw [if_neg q]
      exact Or.inr (by omega)
theorem csM_list [DecidableEq Ob] : ∀ b : Ob, Ob.csM true b = ((Ob.toList b).length : Int) + csL (Ob.toList b)
  | .var _ => rfl
  | .op a b => by
    have := csM_list b
    show 1 + Ob.csM false a + Ob.csM true b = (((Ob.toList b).length + 1 : Nat) : Int) + (Ob.csM false a + csL (Ob.toList b))
    omega
theorem cm_call [DecidableEq Ob] {o : Ob} (h : o.isCall = true) : cm o ≤ 1 + ((Ob.toList (Ob.rgt o)).length : Int) + cmL (Ob.toList (Ob.rgt o)) := by
  cases o with
  | var x => cases h
  | op a b =>
    have hq : a ≠ Ob.quote := of_decide_eq_true h
    have e : Ob.csM false (.op a b) = 1 + Ob.csM true b := if_neg hq
    have h1 := csM_list b
    have h2 := csL_cmL (Ob.toList b)
    have h3 := cm_r (.op a b)
    have h4 := cmL_pos (Ob.toList b)
    show cm (.op a b) ≤ 1 + ((Ob.toList b).length : Int) + cmL (Ob.toList b)
    rcases h2 with h2 | h2 <;> omega
def psI [DecidableEq Ob] (c : Int) : Int := if c ≤ 132 then 0 else c - 132
def emI [DecidableEq Ob] (c : Int) : Int := if c ≤ 20 then 20 else c
theorem psI_r [DecidableEq Ob] {c : Int} (h : 0 ≤ c) : 0 ≤ psI c ∧ psI c ≤ c ∧ c ≤ psI c + 132 := by
  unfold psI
  split <;> omega
theorem emI_r [DecidableEq Ob] {c : Int} (h : 0 ≤ c) : c ≤ emI c ∧ 20 ≤ emI c ∧ emI c ≤ c + 20 := by
  unfold emI
  split <;> omega
theorem nu_le [DecidableEq Ob] {p x : Ob} (h : Ob.csM false p ≤ Ob.csM false x) : Ob.csM false p - 112 - cm x ≤ psI (Ob.csM false p) ∧ Ob.csM false p + (20 - cm x) ≤ emI (Ob.csM false p) := by
  obtain ⟨h1, h2, h3, h4⟩ := cm_pay h
  unfold psI emI
  refine ⟨?_, by omega⟩
  split
  · next q => exact h1 q
  · next q => have := h3 (by omega); omega
/-- a fill, and what it makes is asked -/
theorem NdB.ask [DecidableEq Ob] {α : Type} {r : Ob → Sp.M Ob} (hr : ∀ o, NdB (-112 - cm o) (20 - cm o) (fun _ => True) (r o)) {s : Ob → Ob} {p : Ob} {k : Ob → Sp.M α} {Q : α → Prop} {A E B F : Int} (hk : ∀ v, NdB B F Q (k v)) (hA : psI (Ob.csM false p) + B ≤ A) (hE : emI (Ob.csM false p) ≤ E) (hF : psI (Ob.csM false p) + F ≤ E) : NdB A E Q (Sp.bd (Sp.fill s p) fun x => Sp.bd (r x) k) := by
  have c0 := (csM_it false p).1
  have e0 := emI_r c0
  refine NdB.bd (B := psI (Ob.csM false p) - Ob.csM false p + B) (F := E - Ob.csM false p) (NdB.fill (Int.le_refl _) (Int.le_refl _)) (fun x hx => ?_) (by omega) (by omega) (by omega)
  have hle : Ob.csM false p ≤ Ob.csM false x := by rw [hx]; exact csM_sb s false p
  obtain ⟨n1, n2⟩ := nu_le hle
  exact NdB.bd (hr x) (fun v _ => hk v) (by omega) (by omega) (by omega)
theorem NdB.ask0 [DecidableEq Ob] {α : Type} {r : Ob → Sp.M Ob} (hr : ∀ o, NdB (-112 - cm o) (20 - cm o) (fun _ => True) (r o)) {s : Ob → Ob} {p : Ob} {k : Ob → Sp.M α} {Q : α → Prop} {A E B F : Int} (hi : Ob.sbM s false p = p) (hk : ∀ v, NdB B F Q (k v)) (hA : B ≤ A) (hE : 20 ≤ E) (hF : F ≤ E) : NdB A E Q (Sp.bd (Sp.fill s p) fun x => Sp.bd (r x) k) := by
  refine NdB.bd (B := B) (F := E) (NdB.fill0 hi (Int.le_refl _) (Int.le_refl _)) (fun x hx => ?_) (by omega) (by omega) (by omega)
  have c0 := cm_r x
  exact NdB.bd (hr x) (fun v _ => hk v) (by omega) (by omega) (by omega)
theorem bd_k1 [DecidableEq Ob] {α : Type} (m : Sp.M α) : m = Sp.bd m (fun x => Sp.ret x) := by
  funext s
  unfold Sp.bd Sp.ret
  cases m s <;> rfl
theorem NdB.askE [DecidableEq Ob] {r : Ob → Sp.M Ob} (hr : ∀ o, NdB (-112 - cm o) (20 - cm o) (fun _ => True) (r o)) {s : Ob → Ob} {p : Ob} {A E : Int} (hA : psI (Ob.csM false p) ≤ A) (hE : emI (Ob.csM false p) ≤ E) : NdB A E (fun _ => True) (Sp.bd (Sp.fill s p) fun x => r x) := by
  have c0 := (csM_it false p).1
  have e0 := emI_r c0
  refine NdB.bd (B := psI (Ob.csM false p) - Ob.csM false p) (F := E - Ob.csM false p) (NdB.fill (Int.le_refl _) (Int.le_refl _)) (fun x hx => ?_) (by omega) (by omega) (by omega)
  have hle : Ob.csM false p ≤ Ob.csM false x := by rw [hx]; exact csM_sb s false p
  obtain ⟨n1, n2⟩ := nu_le hle
  exact (hr x).le (by omega) (by omega) (fun _ h => h)
theorem NdB.askE0 [DecidableEq Ob] {r : Ob → Sp.M Ob} (hr : ∀ o, NdB (-112 - cm o) (20 - cm o) (fun _ => True) (r o)) {s : Ob → Ob} {p : Ob} {A E : Int} (hi : Ob.sbM s false p = p) (hA : 0 ≤ A) (hE : 20 ≤ E) : NdB A E (fun _ => True) (Sp.bd (Sp.fill s p) fun x => r x) := by
  refine NdB.bd (B := A) (F := E) (NdB.fill0 hi (Int.le_refl _) (Int.le_refl _)) (fun x hx => ?_) (by omega) (by omega) (by omega)
  have c0 := cm_r x
  exact (hr x).le (by omega) (by omega) (fun _ h => h)
/-- what a RULE costs -/
def RF [DecidableEq Ob] (R : Sp.Rul) : Prop := (R.perm = true → Ob.csM false R.rhs ≤ 117) ∧ Ob.csM false R.rhs + csL R.hyps + (if R.perm = true then Ob.csM false R.rhs else 0) ≤ 238
def EnF [DecidableEq Ob] (E : Sp.Env) : Prop := (∀ D, D ∈ E.defs → Ob.csM false D.body ≤ 239) ∧ ∀ k, k ∈ E.thms → ∀ R, k.rule = some R → RF R
section
variable {r : Ob → Bool → Sp.M Ob}
theorem rb_hyps [DecidableEq Ob] {r : Ob → Sp.M Ob} (hr : ∀ o, NdB (-112 - cm o) (20 - cm o) (fun _ => True) (r o)) {s : Ob → Ob} : ∀ l : List Ob, NdB (psI (csL l)) (emI (csL l)) (fun _ => True) (Sp.rwHyps r s l)
  | [] => NdB.ret (psI_r (Int.le_refl 0)).1 trivial
  | h :: l => by
    have c0 := (csM_it false h).1
    have l0 := csL_pos l
    have ih := rb_hyps hr (s := s) l
    have a1 : psI (Ob.csM false h) + psI (csL l) ≤ psI (Ob.csM false h + csL l) := by unfold psI; split <;> split <;> split <;> omega
    have a2 : emI (Ob.csM false h) ≤ emI (Ob.csM false h + csL l) := by unfold emI; split <;> split <;> omega
    have a3 : psI (Ob.csM false h) + emI (csL l) ≤ emI (Ob.csM false h + csL l) := by unfold psI emI; split <;> split <;> split <;> omega
    have a4 := (psI_r l0).1
    have a5 := emI_r l0
    show NdB (psI (Ob.csM false h + csL l)) (emI (Ob.csM false h + csL l)) _ (Sp.bd (Sp.fill s h) fun x => Sp.bd (r x) fun v => if v = Ob.t then Sp.rwHyps r s l else Sp.ret false)
    exact NdB.ask hr (B := psI (csL l)) (F := emI (csL l)) (fun v => NdB.ite (fun _ => ih) (fun _ => NdB.ret a4 trivial)) a1 a2 a3
theorem sb_zip0 [DecidableEq Ob] {xs : List Ob} {o : Ob} : Ob.sbM (Ob.lkD (xs.zip [])) false o = o := by
  rw [List.zip_nil_right]
  exact sb_id false o
theorem rb_unf [DecidableEq Ob] {E : Sp.Env} (hE : EnF E) (hr : ∀ o t, NdB (-112 - cm o) (20 - cm o) (fun _ => True) (r o t)) {u : Ob} {t : Bool} {T : Int} (hT : 3 ≤ T) (hn : Ob.toList (Ob.rgt u) ≠ [] → 113 ≤ T) : NdB T (T + 132) (fun _ => True) (Sp.unf E r u t) := by
  unfold Sp.unf
  split
  · exact NdB.ret (by omega) trivial
  · next D hD =>
    have hb := hE.1 D (dfn_mem hD).1
    by_cases c : Ob.toList (Ob.rgt u) = []
    · rw [c]
      refine NdB.ite (fun _ => NdB.askE0 (fun o => hr o t) sb_zip0 (by omega) (by omega)) (fun _ => NdB.ite (fun _ => ?_) (fun _ => NdB.ret (by omega) trivial))
      refine NdB.ask0 (r := fun q => r q true) (fun o => hr o true) sb_zip0 (B := T) (F := T + 132) (fun a => NdB.ite (fun _ => NdB.askE0 (fun o => hr o t) sb_zip0 (by omega) (by omega)) (fun _ => NdB.ret (by omega) trivial)) (by omega) (by omega) (by omega)
    · have T1 := hn c
      have b0 := (csM_it false D.body).1
      refine NdB.ite (fun _ => ?_) (fun _ => NdB.ite (fun hi => ?_) (fun _ => NdB.ret (by omega) trivial))
      · refine NdB.askE (fun o => hr o t) ?_ ?_
        · unfold psI; split <;> omega
        · unfold emI; split <;> omega
      · have q1 := (csM_it false (Ob.item D.body 1)).1
        have key : ∀ k : Nat, (k = 2 ∨ k = 3) → Ob.csM false (Ob.item D.body 1) + Ob.csM false (Ob.item D.body k) ≤ 239 := by
          intro k hk
          cases e : D.body with
          | var x => rw [e] at hi; cases hi
          | op f b =>
            have hf : f = Ob.ifS := of_decide_eq_true (by rw [e] at hi; exact hi)
            have e2 : Ob.csM false (.op f b) = 1 + Ob.csM true b := if_neg (by rw [hf]; exact Ob.sym_ne (by decide))
            rw [e, e2] at hb
            have h1 := ask_row b
            have h2 := (csM_it false (Ob.item b 0)).1
            have h3 := (csM_it false (Ob.item b 1)).1
            have h4 := (csM_it false (Ob.item b 2)).1
            have h5 := (csM_it false (Ob.item b 3)).1
            rcases hk with k2 | k2
            · rw [k2]; show Ob.csM false (Ob.item b 0) + Ob.csM false (Ob.item b 1) ≤ 239; omega
            · rw [k2]; show Ob.csM false (Ob.item b 0) + Ob.csM false (Ob.item b 2) ≤ 239; omega
        refine NdB.ask (r := fun q => r q true) (fun o => hr o true) (B := T - psI (Ob.csM false (Ob.item D.body 1))) (F := T + 132 - psI (Ob.csM false (Ob.item D.body 1))) (fun a => NdB.ite (fun _ => ?_) (fun _ => NdB.ret ?_ trivial)) (by omega) ?_ (by omega)
        · have kk := key (if a = Ob.nil then 3 else 2) (by split; exact Or.inr rfl; exact Or.inl rfl)
          generalize (if a = Ob.nil then 3 else 2) = k at kk
          have q2 := (csM_it false (Ob.item D.body k)).1
          refine NdB.askE (fun o => hr o t) ?_ ?_
          · unfold psI; split <;> split <;> omega
          · unfold psI emI; split <;> split <;> omega
        · have := key 2 (Or.inl rfl)
          have q2 := (csM_it false (Ob.item D.body 2)).1
          unfold psI; split <;> omega
        · have := key 2 (Or.inl rfl)
          have q2 := (csM_it false (Ob.item D.body 2)).1
          unfold emI; split <;> omega
theorem rb_rules [DecidableEq Ob] {E : Sp.Env} (hE : EnF E) (hr : ∀ o t, NdB (-112 - cm o) (20 - cm o) (fun _ => True) (r o t)) {u : Ob} {t : Bool} {T : Int} (hT : 3 ≤ T) (hn : Ob.toList (Ob.rgt u) ≠ [] → 113 ≤ T) : ∀ l : List Sp.Thm, (∀ k, k ∈ l → ∀ R, k.rule = some R → RF R) → NdB T (T + 132) (fun _ => True) (Sp.rwRules E r u t l)
  | [], _ => rb_unf hE hr hT hn
  | k :: ks, hl => by
    have ih := rb_rules hE hr hT hn (u := u) (t := t) ks (fun k' h => hl k' (List.mem_cons_of_mem _ h))
    unfold Sp.rwRules
    split
    · exact ih
    · next R hR =>
      split
      · exact ih
      · next l _ =>
        have hrf : RF R := by
          unfold Sp.can at hR
          cases e : k.rule with
          | none => rw [e] at hR; cases hR
          | some R' =>
            rw [e] at hR
            have hR : (if (R'.on && !Ob.has E.muted k.name && (t || !R'.truth)) = true then some R' else none) = some R := hR
            split at hR
            · rw [← Option.some.inj hR]; exact hl k List.mem_cons_self R' e
            · cases hR
        obtain ⟨f1, f2⟩ := hrf
        have c0 := (csM_it false R.rhs).1
        have p0 := csL_pos R.hyps
        have b1 := psI_r p0
        have b2 := emI_r p0
        have b3 := psI_r c0
        have b4 := emI_r c0
        obtain ⟨p, hp⟩ : ∃ p : Int, p = if R.perm = true then Ob.csM false R.rhs else 0 := ⟨_, rfl⟩
        rw [← hp] at f2
        have p1 : 0 ≤ p ∧ p ≤ 117 := by
          rw [hp]
          split
          · next q => exact ⟨c0, f1 q⟩
          · exact ⟨by decide, by decide⟩
        have m1 : p + psI (csL R.hyps) ≤ 117 := by unfold psI; split <;> omega
        have m2 : p + psI (csL R.hyps) + psI (Ob.csM false R.rhs) ≤ 117 := by unfold psI; split <;> split <;> omega
        have m3 : p + emI (csL R.hyps) ≤ 249 := by unfold emI; split <;> omega
        have m4 : p + psI (csL R.hyps) + emI (Ob.csM false R.rhs) ≤ 249 := by unfold psI emI; split <;> split <;> omega
        refine NdB.bd (B := T + 117) (F := T + 249) (NdB.tick (A := -117) (E := 0) (by decide) (by decide)) (fun _ _ => ?_) (by omega) (by omega) (by omega)
        refine NdB.bd (A := p) (E := p) (P := fun _ => True) (B := T + 117 - p) (F := T + 249 - p) ?_ (fun g _ => NdB.ite (fun _ => ?_) (fun _ => ih.le (by omega) (by omega) (fun _ h => h))) (by omega) (by omega) (by omega)
        · rw [hp]
          by_cases q : R.perm = true
          · rw [if_pos q, if_pos q]
            exact NdB.bd (B := 0) (F := 0) (NdB.fill (Int.le_refl _) (Int.le_refl _)) (fun x _ => NdB.ret (Int.le_refl _) trivial) (by omega) (by omega) (by omega)
          · rw [if_neg q, if_neg q]
            exact NdB.ret (Int.le_refl _) trivial
        · refine NdB.bd (B := T + 117 - p - psI (csL R.hyps)) (F := T + 249 - p - psI (csL R.hyps)) (rb_hyps (fun o => hr o true) R.hyps) (fun b _ => NdB.ite (fun _ => ?_) (fun _ => ih.le (by omega) (by omega) (fun _ h => h))) (by omega) (by omega) (by omega)
          exact NdB.askE (fun o => hr o t) (by omega) (by omega)
theorem plain_nb [DecidableEq Ob] {u : Ob} {m : Sp.M Ob} (h : Sp.plain u = some (.inr m)) : NdB 10 10 (fun _ => True) m := by
  have k1 : ∀ f a, NdB 2 2 (fun _ => True) (Sp.mk1 f a) := fun f a => (NdB.big (n := 2) (by decide) (by decide)).le (Int.le_refl _) (Int.le_refl _) (fun _ _ => trivial)
  have k2 : ∀ f a b, NdB 3 3 (fun _ => True) (Sp.mk2 f a b) := fun f a b => (NdB.big (n := 3) (by decide) (by decide)).le (Int.le_refl _) (Int.le_refl _) (fun _ _ => trivial)
  have k3 : ∀ f a b c, NdB 4 4 (fun _ => True) (Sp.mk3 f a b c) := fun f a b c => (NdB.big (n := 4) (by decide) (by decide)).le (Int.le_refl _) (Int.le_refl _) (fun _ _ => trivial)
  unfold Sp.plain at h
  repeat' split at h
  all_goals first
    | (have e := Sum.inr.inj (Option.some.inj h); rw [← e]; first | exact NdB.bd (B := 7) (F := 7) (k2 _ _ _) (fun _ _ => NdB.bd (k2 _ _ _) (fun _ _ => k3 _ _ _ _) (by decide) (by decide) (by decide)) (by decide) (by decide) (by decide) | exact NdB.bd (A := 1) (E := 1) (NdB.pay (by decide)) (fun _ _ => k2 _ _ _) (by decide) (by decide) (by decide) | exact (k1 _ _).le (by decide) (by decide) (fun _ h => h))
    | (cases h; done)
theorem rb_rest [DecidableEq Ob] {E : Sp.Env} (hE : EnF E) (hr : ∀ o t, NdB (-112 - cm o) (20 - cm o) (fun _ => True) (r o t)) {ctx : List Ob} {u : Ob} {t : Bool} {T : Int} (hT : 3 ≤ T) (hn : Ob.toList (Ob.rgt u) ≠ [] → 113 ≤ T) : NdB T (T + 132) (fun _ => True) (Sp.rwRest E r ctx u t) := by
  unfold Sp.rwRest
  split
  · exact NdB.ret (by omega) trivial
  · rename_i m h
    refine NdB.bd (B := -10) (F := 20) (plain_nb h) (fun x _ => ?_) (by omega) (by omega) (by omega)
    have := cm_r x
    exact (hr x t).le (by omega) (by omega) (fun _ h => h)
  · refine NdB.ite (fun _ => rb_rules hE hr hT hn _ (fun k hk => hE.2 k (List.mem_reverse.mp hk))) (fun _ => NdB.ret (by omega) trivial)
theorem rb_apply [DecidableEq Ob] {E : Sp.Env} (hE : EnF E) (hr : ∀ o t, NdB (-112 - cm o) (20 - cm o) (fun _ => True) (r o t)) {ctx : List Ob} {u : Ob} {t : Bool} {T : Int} (hT : 3 ≤ T) (hn : Ob.toList (Ob.rgt u) ≠ [] → 113 ≤ T) : NdB T (T + 132) (fun _ => True) (Sp.rwApply E r ctx u t) := by
  have rest := rb_rest hE hr (ctx := ctx) (u := u) (t := t) hT hn
  unfold Sp.rwApply
  refine NdB.ite (fun _ => ?_) (fun _ => rest)
  split
  · split
    · intro s
      exact ⟨trivial, Nat.le_refl _, by show ((s.2 + 3 : Nat) : Int) ≤ (s.2 : Int) + 117 * ((s.1 : Int) - (s.1 : Int)) + T; omega⟩
    · exact rest
  · intro s
    have q := ev_bound (E := E) 300 (fun x => x) u (s.1, 100, s.2)
    unfold NEr at q
    show NdBr T (T + 132) (fun _ => True) s (match Sp.ev E 300 (fun x => x) u (s.1, 100, s.2) with
      | .ok v s' => .ok (Ob.constOf v) (s'.1, s'.2.2 + 2)
      | .error w s' => if w = 1 then .error () (s'.1, s'.2.2) else Sp.rwRest E r ctx u t (s'.1, s'.2.2))
    split at q
    · next a s' e =>
      have q1 : s'.1 ≤ s.1 := q.1
      have q2 : (s'.2.2 : Int) ≤ (s.2 : Int) + ((s.1 : Int) - (s'.1 : Int)) := q.2
      try rw [e]
      exact ⟨trivial, q1, by show ((s'.2.2 + 2 : Nat) : Int) ≤ (s.2 : Int) + 117 * ((s.1 : Int) - (s'.1 : Int)) + T; omega⟩
    · next x s' e =>
      have q1 : s'.1 ≤ s.1 := q.1
      have q2 : (s'.2.2 : Int) ≤ (s.2 : Int) + ((s.1 : Int) - (s'.1 : Int)) := q.2
      try rw [e]
      show NdBr T (T + 132) (fun _ => True) s (if x = 1 then .error () (s'.1, s'.2.2) else Sp.rwRest E r ctx u t (s'.1, s'.2.2))
      by_cases c : x = 1
      · rw [if_pos c]
        exact ⟨q1, by show (s'.2.2 : Int) ≤ (s.2 : Int) + 117 * ((s.1 : Int) - (s'.1 : Int)) + (T + 132); omega⟩
      · rw [if_neg c]
        have q3 := rest (s'.1, s'.2.2)
        unfold NdBr at q3 ⊢
        split at q3
        · next b s2 e2 =>
          try rw [e2]
          have k1 : s2.1 ≤ s'.1 := q3.2.1
          have k2 : (s2.2 : Int) ≤ (s'.2.2 : Int) + 117 * ((s'.1 : Int) - (s2.1 : Int)) + T := q3.2.2
          exact ⟨trivial, by omega, by omega⟩
        · next b s2 e2 =>
          try rw [e2]
          have k1 : s2.1 ≤ s'.1 := q3.1
          have k2 : (s2.2 : Int) ≤ (s'.2.2 : Int) + 117 * ((s'.1 : Int) - (s2.1 : Int)) + (T + 132) := q3.2
          exact ⟨by omega, by omega⟩
theorem rb_args [DecidableEq Ob] {r : Ob → Sp.M Ob} (hr : ∀ o, NdB (-112 - cm o) (20 - cm o) (fun _ => True) (r o)) : ∀ l : List Ob, NdB (-112 * (l.length : Int) - cmL l) 20 (fun as : List Ob => as.length = l.length) (Sp.rwArgs r l)
  | [] => NdB.ret (by show (0 : Int) ≤ -112 * ((0 : Nat) : Int) - 0; omega) rfl
  | a :: l => by
    have ih := rb_args hr l
    have c0 := cm_r a
    have l0 := cmL_pos l
    have el : (((a :: l).length : Nat) : Int) = (l.length : Int) + 1 := by rw [List.length_cons]; omega
    have ec : cmL (a :: l) = cm a + cmL l := rfl
    rw [el, ec]
    show NdB _ 20 _ (Sp.bd (r a) fun v => Sp.bd (Sp.rwArgs r l) fun vs => Sp.ret (v :: vs))
    refine NdB.bd (hr a) (fun v _ => NdB.bd (B := 0) (F := 0) ih (fun vs hv => NdB.ret (Int.le_refl _) ?_) (C := -112 * (l.length : Int) - cmL l) (G := 20) (by omega) (by omega) (by omega)) (by omega) (by omega) (by omega)
    show (v :: vs).length = (a :: l).length
    rw [List.length_cons, List.length_cons, hv]
end
theorem rb_rw [DecidableEq Ob] {E : Sp.Env} (hE : EnF E) : ∀ (d : Nat) (ctx : List Ob) (o : Ob) (t : Bool), NdB (-112 - cm o) (20 - cm o) (fun _ => True) (Sp.rw E d ctx o t)
  | 0, ctx, o, t => NdB.fail (by have := cm_r o; omega)
  | d + 1, ctx, o, t => by
    have ih := rb_rw hE d
    have c0 := cm_r o
    have ihl : ∀ ctx o t, NdB (-112) 20 (fun _ => True) (Sp.rw E d ctx o t) := fun ctx o t => by
      have := cm_r o
      exact (ih ctx o t).le (by omega) (by omega) (fun _ h => h)
    have k1 : ∀ f a, NdB 2 2 (fun _ => True) (Sp.mk1 f a) := fun f a => (NdB.big (n := 2) (by decide) (by decide)).le (Int.le_refl _) (Int.le_refl _) (fun _ _ => trivial)
    have k3 : ∀ f a b c, NdB 4 4 (fun _ => True) (Sp.mk3 f a b c) := fun f a b c => (NdB.big (n := 4) (by decide) (by decide)).le (Int.le_refl _) (Int.le_refl _) (fun _ _ => trivial)
    have kn : ∀ a, NdB 2 2 (fun _ => True) (Sp.mkNot a) := fun a => NdB.not (by decide) (by decide)
    show NdB (-112 - cm o) (20 - cm o) (fun _ => True) (Sp.bd Sp.tick fun _ => Sp.bd (Sp.rwStep E (Sp.rw E d) ctx o t) fun v => Sp.ret (Sp.fin t v))
    refine NdB.bd (B := 5 - cm o) (F := 137 - cm o) (NdB.tick (A := -117) (E := 0) (by decide) (by decide)) (fun _ _ => ?_) (by omega) (by omega) (by omega)
    refine NdB.bd (A := 5 - cm o) (E := 137 - cm o) (B := 0) (F := 0) (P := fun _ => True) ?_ (fun v _ => NdB.ret (Int.le_refl _) trivial) (by omega) (by omega) (by omega)
    unfold Sp.rwStep
    refine NdB.ite (fun hc => ?_) (fun hc => NdB.ite (fun hnc => ?_) (fun hcall => ?_))
    · have : cm o ≤ 0 := by
        have := c0.2.2
        cases o with
        | var x =>
          have e : Ob.csM false (.var x) = 0 := rfl
          omega
        | op a b =>
          have hq : a = Ob.quote := of_decide_eq_true hc
          have e : Ob.csM false (.op a b) = 0 := if_pos hq
          omega
      exact NdB.ret (by omega) trivial
    · have : cm o ≤ 0 := by
        have := c0.2.2
        cases o with
        | var x =>
          have e : Ob.csM false (.var x) = 0 := rfl
          omega
        | op a b =>
          have h1 : decide (a ≠ Ob.quote) = false := by
            have q : (!(decide (a ≠ Ob.quote))) = true := hnc
            cases e : decide (a ≠ Ob.quote) with
            | false => rfl
            | true => rw [e] at q; cases q
          have hq : a = Ob.quote := Decidable.not_not.mp (of_decide_eq_false h1)
          have e : Ob.csM false (.op a b) = 0 := if_pos hq
          omega
      exact NdB.ret (by omega) trivial
    have hcall : o.isCall = true := by
      cases e : o.isCall with
      | true => rfl
      | false => rw [e] at hcall; exact absurd rfl hcall
    refine NdB.ite (fun _ => ?_) (fun _ => NdB.ite (fun _ => ?_) (fun _ => NdB.ite (fun _ => ?_) (fun _ => ?_)))
    · refine NdB.bd (B := 0) (F := 120) (ihl ctx _ true) (fun a _ => ?_) (by omega) (by omega) (by omega)
      unfold Sp.rwIf
      refine NdB.ite (fun _ => (ihl ctx _ t).le (by decide) (by decide) (fun _ h => h)) (fun _ => ?_)
      refine NdB.bd (A := 1) (E := 1) (B := -1) (F := 119) (NdB.pay (by decide)) (fun _ _ => ?_) (by decide) (by decide) (by decide)
      refine NdB.bd (B := 111) (F := 119) (ihl _ _ t) (fun b _ => ?_) (by decide) (by decide) (by decide)
      refine NdB.bd (B := 109) (F := 117) (kn _) (fun nA _ => ?_) (by decide) (by decide) (by decide)
      refine NdB.bd (A := 1) (E := 1) (B := 108) (F := 116) (NdB.pay (by decide)) (fun _ _ => ?_) (by decide) (by decide) (by decide)
      refine NdB.bd (B := 4) (F := 4) (ihl _ _ t) (fun c _ => ?_) (by decide) (by decide) (by decide)
      unfold Sp.rwJoin
      refine NdB.ite (fun _ => NdB.ret (by decide) trivial) (fun _ => NdB.ite (fun _ => NdB.ret (by decide) trivial) (fun _ => NdB.ite (fun _ => (k1 _ _).le (by decide) (by decide) (fun _ h => h)) (fun _ => k3 _ _ _ _)))
    · refine NdB.bd (B := -19) (F := 113) (k3 _ _ _ _) (fun i _ => ?_) (by omega) (by omega) (by omega)
      refine NdB.bd (B := -112) (F := 20) (k3 _ _ _ _) (fun w _ => ihl ctx w t) (by decide) (by decide) (by decide)
    · refine NdB.bd (B := 2) (F := 2) (ihl ctx _ true) (fun a _ => ?_) (by omega) (by omega) (by omega)
      unfold Sp.rwNot
      refine NdB.bd (A := 2) (E := 2) (B := 0) (F := 0) (P := fun _ => True) (NdB.ite (fun _ => k1 _ _) (fun _ => kn _)) (fun x _ => NdB.ret (Int.le_refl _) trivial) (by decide) (by decide) (by decide)
    · have cc := cm_call hcall
      have cl := cmL_pos (Ob.toList (Ob.rgt o))
      refine NdB.bd (B := 5 - cm o + 112 * ((Ob.toList (Ob.rgt o)).length : Int) + cmL (Ob.toList (Ob.rgt o))) (F := 137 - cm o + 112 * ((Ob.toList (Ob.rgt o)).length : Int) + cmL (Ob.toList (Ob.rgt o))) (rb_args (fun a => ih ctx a false) _) (fun as ha => ?_) (by omega) (by omega) (by omega)
      have hlen : (as.length : Int) = ((Ob.toList (Ob.rgt o)).length : Int) := by rw [ha]
      refine NdB.bd (B := (if as.length = 0 then 3 else 113)) (F := (if as.length = 0 then 3 else 113) + 132) (NdB.big (n := as.length + 1) (A := (as.length : Int) + 1) (E := (as.length : Int) + 1) (by omega) (by omega)) (fun u hu => ?_) ?_ ?_ ?_
      · have eu : Ob.toList (Ob.rgt u) = as := by rw [hu, Ob.rgt_pr, Ob.toList_ofList]
        refine rb_apply hE (fun o t => ih ctx o t) ?_ (fun q => ?_)
        · split <;> omega
        · rw [eu] at q
          rw [if_neg (fun z => q (List.eq_nil_of_length_eq_zero z))]
          omega
      · first | omega | (split <;> omega)
      · first | omega | (split <;> omega)
      · first | omega | (split <;> omega)
