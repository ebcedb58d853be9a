-- deps: 799896
/-! prove and defthm fit -/
theorem pairs_w [DecidableEq Ob] {E : Sp.Env} (hs0 : ∀ f : Ob, f.isSym = false → Sp.arOf E f = -1) : ∀ (L : List Ob) (acc ps : List (Ob × Ob)), Sp.pairsGo E L acc = some ps → (∀ p, p ∈ acc → Ob.wt (Sp.arOf E) p.2) → ∀ p, p ∈ ps → Ob.wt (Sp.arOf E) p.2
  | [], acc, ps, h, ha => by
    have h : some acc = some ps := h
    rw [← Option.some.inj h]; exact ha
  | q :: L, acc, ps, h, ha => by
    rw [pairsGo_cons] at h
    split at h
    · cases e : Ob.rdT (Sp.arOf E) (Ob.item q 1) with
      | none => rw [e] at h; cases h
      | some T =>
        rw [e] at h
        refine pairs_w hs0 L _ ps h (fun p hp => ?_)
        rcases List.mem_append.mp hp with z | z
        · exact ha p z
        · rw [List.mem_singleton.mp z]; exact (rdT_wt hs0 e).1
    · cases h
theorem uses_mem [DecidableEq Ob] {E : Sp.Env} {hs : List Ob} {p : Ob × List (Ob × Ob)} (h : p ∈ Sp.usesOf E hs) : ∃ k ps o, E.thmOf o = some k ∧ (∃ x, Sp.pairsOf E x = some ps) ∧ p = (k.form, ps) := by
  unfold Sp.usesOf at h
  obtain ⟨x, hx, e⟩ := List.mem_filterMap.mp h
  split at e
  · cases e1 : E.thmOf (Ob.item x 1) with
    | none => rw [e1] at e; cases e
    | some k =>
      cases e2 : Sp.pairsOf E (Ob.rgt (Ob.rgt x)) with
      | none => rw [e1, e2] at e; cases e
      | some ps =>
        rw [e1, e2] at e
        exact ⟨k, ps, _, e1, ⟨_, e2⟩, (Option.some.inj e).symm⟩
  · cases e
theorem fm_len [DecidableEq Ob] {α β : Type} (f : α → Option β) (h : α) (l : List α) : (List.filterMap f (h :: l)).length ≤ (List.filterMap f l).length + 1 := by
  rw [List.filterMap_cons]
  split
  · omega
  · rw [List.length_cons]; omega
theorem uses_len [DecidableEq Ob] {E : Sp.Env} : ∀ hs : List Ob, (∀ h, h ∈ hs → Ob.lft h = Ob.use → 4 ≤ nwd false h) → 4 * ((Sp.usesOf E hs).length : Int) ≤ nwdL hs
  | [], _ => Int.le_refl _
  | h :: hs, hh => by
    have ih := uses_len (E := E) hs (fun x hx => hh x (List.mem_cons_of_mem _ hx))
    have hp := nwd_pos false h
    show 4 * ((Sp.usesOf E (h :: hs)).length : Int) ≤ nwd false h + nwdL hs
    by_cases q : Ob.lft h = Ob.use
    · have h4 := hh h List.mem_cons_self q
      have h5 : (Sp.usesOf E (h :: hs)).length ≤ (Sp.usesOf E hs).length + 1 := fm_len _ h hs
      omega
    · rw [usesOf_no q]
      omega
theorem use_4 [DecidableEq Ob] {E : Sp.Env} {hs : List Ob} (h0 : Sp.hintsAsk E hs = 0) : ∀ h, h ∈ hs → Ob.lft h = Ob.use → 4 ≤ nwd false h := fun h hh hu => by
  obtain ⟨_, h2⟩ := hintsGo_each hs false false 0 (Or.inl rfl) h0
  obtain ⟨i, o, e⟩ := h2 h hh
  unfold Sp.hintAsk at e
  by_cases c : Ob.len h < 1
  · rw [if_pos c] at e; cases e
  rw [if_neg c, if_neg (by rw [hu]; exact Ob.sym_ne (by decide)), if_pos hu] at e
  unfold Sp.useAsk at e
  by_cases c2 : 2 ≤ Ob.len h ∧ Ob.isName (Ob.item h 1) = true
  · cases h with
    | var x => rw [Ob.len_var] at c2; exfalso; have := c2.1; split at this <;> omega
    | op a b =>
      have hu : a = Ob.use := hu
      rw [nwd_call (by rw [hu]; exact Ob.sym_ne (by decide))]
      have h1 := nwd_pos false a
      cases b with
      | var x =>
        exfalso
        have := c2.1
        rw [Ob.len_pr, Ob.len_var] at this
        split at this
        · omega
        · split at this <;> omega
      | op x y =>
        have h3 := nwd_pos false x
        have h4 := nwd_pos true y
        show 4 ≤ 1 + nwd false a + (nwd false x + nwd true y)
        omega
  · rw [if_neg c2] at e; cases e
theorem indOf_f [DecidableEq Ob] {E : Sp.Env} {hs : List Ob} {D : Sp.Dfn} {vs : List Ob} (h0 : Sp.hintsAsk E hs = 0) (h : Sp.indOf E hs = some (D, vs)) : E.dfn D.name = some D ∧ vs.length = D.params.length := by
  unfold Sp.indOf at h
  cases ef : hs.find? (fun h => decide (Ob.lft h = Ob.induct)) with
  | none => rw [ef] at h; cases h
  | some x =>
    rw [ef] at h
    cases ed : E.dfn (Ob.lft (Ob.item x 1)) with
    | none =>
      have h : (match E.dfn (Ob.lft (Ob.item x 1)) with | some D => some (D, Ob.toList (Ob.rgt (Ob.item x 1))) | none => none) = some (D, vs) := h
      rw [ed] at h; cases h
    | some D' =>
      have h : (match E.dfn (Ob.lft (Ob.item x 1)) with | some D => some (D, Ob.toList (Ob.rgt (Ob.item x 1))) | none => none) = some (D, vs) := h
      rw [ed] at h
      have h : some (D', Ob.toList (Ob.rgt (Ob.item x 1))) = some (D, vs) := h
      have hh := Option.some.inj h
      have e1 : D' = D := congrArg Prod.fst hh
      have e2 : Ob.toList (Ob.rgt (Ob.item x 1)) = vs := congrArg Prod.snd hh
      rw [e1] at ed
      have hx : x ∈ hs := List.mem_of_find?_eq_some ef
      have hl0 : decide (Ob.lft x = Ob.induct) = true := List.find?_some (p := fun h : Ob => decide (Ob.lft h = Ob.induct)) ef
      have hl : Ob.lft x = Ob.induct := of_decide_eq_true hl0
      have en : D.name = Ob.lft (Ob.item x 1) := (dfn_mem ed).2
      refine ⟨by rw [en]; exact ed, ?_⟩
      obtain ⟨_, h2⟩ := hintsGo_each hs false false 0 (Or.inl rfl) h0
      obtain ⟨i, o, e⟩ := h2 x hx
      unfold Sp.hintAsk at e
      by_cases c : Ob.len x < 1
      · rw [if_pos c] at e; cases e
      rw [if_neg c, if_pos hl] at e
      split at e
      · cases e
      · unfold Sp.indAsk at e
        split at e
        · rw [ed] at e
          have e : (if D.meas.isSome = true ∧ (D.params.length : Int) = Ob.len (Ob.rgt (Ob.item x 1)) then (0 : Int) else 2) = 0 := e
          by_cases c2 : D.meas.isSome = true ∧ (D.params.length : Int) = Ob.len (Ob.rgt (Ob.item x 1))
          · have := toList_len' (o := Ob.rgt (Ob.item x 1)) (by omega)
            rw [← e2]
            omega
          · rw [if_neg c2] at e; cases e
        · cases e
theorem fitT_of [DecidableEq Ob] {H : Sp.Hs} {F : Ob} {hs : List Ob} {fuel : Nat} {B : Int} (h : Sp.HOk H) (fl : FlOk H) (hz : F.sz ≤ 120) (h0 : Sp.hintsAsk (H.env []) hs = 0) (hw : nwdL hs ≤ 1001) (hfu : fuel ≤ 1000) (hB : B + cpH hs ≤ 22000) : FitT B H F hs fuel := by
  have hs0 : ∀ f : Ob, f.isSym = false → Sp.arOf (H.env []) f = -1 := arOf_sym (fun D hD => ((HOk.wf h).1 D hD).1)
  have ul := uses_len (E := H.env []) hs (use_4 h0)
  have cF := csM_le F
  have key := thmCl_b (E := H.env []) (F := F) (ind := Sp.indOf (H.env []) hs) (us := Sp.usesOf (H.env []) hs) (fuel := fuel) (arOf_not _) (fun p hp => ?_) (fun D vs e => ⟨NdB.ret (by decide) trivial, ?_⟩)
  · obtain ⟨k1, k2⟩ := key
    refine ⟨?_, fun cl s e => ?_⟩
    · unfold Fit
      omega
    · obtain ⟨q1, q2, q3⟩ := k1 cl s e
      exact fitP_of (enF_of h) q1 (by rw [q2]; omega)
  · obtain ⟨k, ps, o, e1, ⟨x, e2⟩, e3⟩ := uses_mem hp
    have hk := (HOk.wf h).2.1 k (List.mem_of_find?_eq_some e1)
    rw [e3]
    refine ⟨by have := csM_le k.form; have := hk.2.1.2; show Ob.csM false k.form ≤ 239; omega, ?_⟩
    have hps : ∀ p, p ∈ ps → Ob.wt (Sp.arOf (H.env [])) p.2 := by
      unfold Sp.pairsOf at e2
      split at e2
      · cases e2
      · exact pairs_w hs0 _ [] ps e2 (fun p hp => by cases hp)
    exact (sb_wt false k.form hk.2.1.1 (fun x hx => lkD_w ps hps (var_w hx.2).1)).1
  · obtain ⟨d1, d2⟩ := indOf_f h0 e
    have hD := (dfn_mem d1).1
    obtain ⟨w1, w2, w3, w4⟩ := (HOk.wf h).1 D hD
    obtain ⟨nb, ns, nq, _, _⟩ := isName_base w1
    refine ⟨if D.params.length = 0 then 0 else 239, by split <;> decide, fun hv => ?_, ind_b nb nq d1 w3.1 w3.2.1 (fl D hD) rfl⟩
    rw [if_neg (fun z => hv (List.eq_nil_of_length_eq_zero (d2.trans z)))]
    omega
