-- deps: 509
/-! the reference, partial: terms of a TEXT in a house -/
theorem rd_len [DecidableEq Ob] {ar : Ob → Int} : ∀ (o x : Ob), Ob.rdM ar true o = some x → x.len = o.len
  | .var z, x, h => by
    rw [← Option.some.inj h]
  | .op a b, x, h => by
    rw [rdM_row] at h
    cases e1 : Ob.rdM ar false a with
    | none => rw [e1] at h; cases h
    | some y =>
      cases e2 : Ob.rdM ar true b with
      | none => rw [e1, e2] at h; cases h
      | some z =>
        rw [e1, e2] at h
        rw [← Option.some.inj h, Ob.len_pr, rd_len b z e2]
        rfl
theorem constOf_wt [DecidableEq Ob] {ar : Ob → Int} (x : Ob) : Ob.wt ar (Ob.constOf x) := by
  unfold Ob.constOf
  split
  · next h =>
    refine Ob.wt_leaf ?_
    cases x with
    | var z => rfl
    | op a b =>
      simp only [Bool.or_eq_true, decide_eq_true_eq] at h
      rcases h with (h | h) | h
      · cases h
      · cases h
      · cases h
  · next h =>
    refine ⟨fun _ => ⟨x, rfl, ?_⟩, fun z => absurd rfl z⟩
    unfold Ob.constOf
    rw [if_neg h]
theorem rd_wt [DecidableEq Ob] {ar : Ob → Int} (hs0 : ∀ f : Ob, f.isSym = false → ar f = -1) : ∀ (m : Bool) (o x : Ob), Ob.rdM ar m o = some x → (m = true → o.len ≠ -1) → Ob.wtM ar m x
  | true, .var z, x, h, hl => by
    rw [← Option.some.inj h]
    have := hl rfl
    rw [Ob.len_var] at this
    by_cases c : .var z = Ob.nil
    · exact c
    · rw [if_neg c] at this; exact absurd rfl this
  | false, .var z, x, h, _ => by
    rw [← Option.some.inj h]; trivial
  | true, .op a b, x, h, hl => by
    have hl := hl rfl
    rw [rdM_row] at h
    cases e1 : Ob.rdM ar false a with
    | none => rw [e1] at h; cases h
    | some y =>
      cases e2 : Ob.rdM ar true b with
      | none => rw [e1, e2] at h; cases h
      | some z =>
        rw [e1, e2] at h
        rw [← Option.some.inj h]
        refine ⟨rd_wt hs0 false a y e1 (fun z => by cases z), rd_wt hs0 true b z e2 (fun _ zz => hl ?_)⟩
        show Ob.len (.pr a b) = -1
        rw [Ob.len_pr, zz]; rfl
  | false, .op a b, x, h, _ => by
    rw [show Ob.rdM ar false (.op a b) = _ from rdM_pr ar a b] at h
    split at h
    · split at h
      · rw [← Option.some.inj h]; exact constOf_wt _
      · cases h
    · next hq =>
      split at h
      · cases h
      · next hc =>
        cases e2 : Ob.rdM ar true b with
        | none => rw [e2] at h; cases h
        | some y =>
          rw [e2] at h
          rw [← Option.some.inj h]
          have h1 : ar a ≠ -1 := fun z => hc (Or.inl z)
          have h2 : Ob.len b = ar a := Decidable.not_not.mp (fun z => hc (Or.inr z))
          refine ⟨fun z => absurd z hq, fun _ => ⟨?_, by rw [rd_len b y e2]; exact h2, rd_wt hs0 true b y e2 (fun _ z => h1 (by rw [← h2]; exact z))⟩⟩
          cases e : Ob.isSym a with
          | true => rfl
          | false => exact absurd (hs0 a e) h1
theorem rdT_wt [DecidableEq Ob] {ar : Ob → Int} (hs0 : ∀ f : Ob, f.isSym = false → ar f = -1) {o x : Ob} (h : Ob.rdT ar o = some x) : Ob.wt ar x ∧ x.sz ≤ 120 := by
  unfold Ob.rdT at h
  cases e : Ob.rdM ar false o with
  | none => rw [e] at h; cases h
  | some y =>
    rw [e] at h
    have h : (if y.sz ≤ 120 then some y else none) = some x := h
    by_cases c : y.sz ≤ 120
    · rw [if_pos c] at h
      rw [← Option.some.inj h]
      exact ⟨rd_wt hs0 false o y e (fun z => by cases z), c⟩
    · rw [if_neg c] at h; cases h
theorem isName_base [DecidableEq Ob] {f : Ob} (h : f.isName = true) : f.isBase = false ∧ f.isSym = true ∧ f ≠ Ob.quote ∧ f ≠ Ob.nil ∧ f ≠ Ob.t := by
  unfold Ob.isName Ob.reserved at h
  rw [Bool.and_eq_true, Bool.not_eq_true', Bool.or_eq_false_iff, Bool.or_eq_false_iff, Bool.or_eq_false_iff, decide_eq_false_iff_not, decide_eq_false_iff_not, decide_eq_false_iff_not] at h
  exact ⟨h.2.2, h.1, h.2.1.2, h.2.1.1.1, h.2.1.1.2⟩
theorem base_sym [DecidableEq Ob] {f : Ob} (h : f.isBase = true) : f.isSym = true := by
  unfold Ob.isBase at h
  simp only [Bool.or_eq_true, decide_eq_true_eq] at h
  rcases h with ((((((((((((h | h) | h) | h) | h) | h) | h) | h) | h) | h) | h) | h) | h) | h <;> rw [h] <;> exact Ob.sym_isSym _
theorem arOf_sym [DecidableEq Ob] {E : Sp.Env} (hn : ∀ D, D ∈ E.defs → D.name.isName = true) (f : Ob) (h : f.isSym = false) : Sp.arOf E f = -1 := by
  have nb : ∀ o : Ob, o.isSym = true → f ≠ o := fun o ho z => by rw [z, ho] at h; cases h
  have hb : f.isBase = false := by
    cases e : f.isBase with
    | false => rfl
    | true => rw [base_sym e] at h; cases h
  have sy : ∀ s : List Int, f ≠ Ob.sym s := fun s => nb _ (Ob.sym_isSym s)
  unfold Sp.arOf
  rw [if_neg (show ¬ f = Ob.ifS from sy _), if_neg (by rintro (z | z | z | z | z | z) <;> exact sy _ z), if_neg (by rw [hb]; decide)]
  cases e : E.dfn f with
  | none => rfl
  | some D =>
    obtain ⟨h1, h2⟩ := dfn_mem e
    have := (isName_base (hn D h1)).2.1
    rw [h2, h] at this
    cases this
theorem DOk.names [DecidableEq Ob] {u : iST} {E : Sp.Env} (h : DOk u E) : ∀ D, D ∈ E.defs → D.name.isName = true := by
  intro D hD
  rw [h.1] at hD
  unfold dfs at hD
  obtain ⟨i, hi, e⟩ := List.mem_map.mp hD
  have := List.mem_range.mp hi
  rw [← e]
  exact (h.2.2 (i : Int) (by omega) (by omega)).1.2.2
theorem ArOk_env [DecidableEq Ob] {u : iST} {E : Sp.Env} (hT : TI u) (hU : TU u) (hD : DOk u E) (h57 : u.1 57 = -1) : ArOk u (Sp.arOf E) := by
  intro f r f0 f1 fs hf
  rcases FnOf_dfn hT hU hD h57 f0 f1 hf with ⟨a1, a2, a3⟩ | ⟨a1, a2, a3, a4⟩ | ⟨d, d0, d1, a1, a2, a3, a4⟩
  · refine Or.inl ⟨a1, ?_⟩
    by_cases c : Sp.arOf E (ob u f) = -1
    · exact c
    · have := (arOf_ne c a3).1
      rw [a2] at this; cases this
  · refine Or.inr ⟨a1, ?_, ?_⟩
    · unfold Many
      split
      · decide
      · split
        · decide
        · try rw [if_pos (by omega)]
          decide
    · rw [← a3, base_ar hT hU E a1 a2]
      unfold Many
      split
      · rfl
      · split
        · rfl
        · try rw [if_pos (by omega)]
          try rfl
  · refine Or.inr ⟨by omega, ?_, ?_⟩
    · unfold Many
      rw [if_neg (by omega), if_neg (by omega), if_neg (by omega), if_neg (by omega), a1, show 100 + d - 100 = d by omega]
      exact (hD.2.2 d d0 d1).2.1.1
    · have e : Sp.arOf E (ob u f) = ((dfn1 u d).params.length : Int) := by
        have : Sp.arOf E (ob u f) ≠ -1 ∨ Sp.arOf E (ob u f) = -1 := by omega
        unfold Sp.arOf
        have nb : ∀ o : Ob, Ob.isBase o = true → ob u f ≠ o := fun o ho z => by rw [z, ho] at a4; cases a4
        rw [if_neg (nb _ isBase_ifS), if_neg (by
          rintro (z | z | z | z | z | z)
          · exact nb _ isBase_equal z
          · exact nb _ isBase_cons z
          · exact nb _ isBase_implies z
          · exact nb _ isBase_plus z
          · exact nb _ isBase_minus z
          · exact nb _ isBase_less z), if_neg (by rw [a4]; decide), a3]
      have lp : (dfn1 u d).params.length = (u.2.1 37 d).toNat := by
        show (prm u d).length = _
        unfold prm; simp
      have p0 := (hD.2.2 d d0 d1).2.1.1
      unfold Many
      rw [if_neg (by omega), if_neg (by omega), if_neg (by omega), if_neg (by omega), a1, show 100 + d - 100 = d by omega, e, lp]
      omega
/-- while a function is coming -/
theorem ArOk_coming [DecidableEq Ob] {u w : iST} {E : Sp.Env} (hT : TI u) (hU : TU u) (hD : DOk u E) (h57 : u.1 57 = -1) {n : Int} (n0 : 0 ≤ n) (n1 : n < u.1 8) (hn : (ob u n).isName = true) (hw2 : w.2 = u.2) (hwn : ∀ k, k ≠ 57 → k ≠ 58 → w.1 k = u.1 k) (w57 : w.1 57 = n) (w0 : 0 ≤ w.1 58) : ArOk w (Sp.arC E (ob u n) (w.1 58)) := by
  have eo : ∀ j, ob w j = ob u j := ob_same (by rw [hw2]) (by rw [hw2]) (by rw [hw2]) (by rw [hw2]) (by rw [hw2])
  have h16 := (isName_iff hT hU n0 n1 (isName_base hn).2.1).mp hn
  intro f r f0 f1 fs hf
  have f1' : f < u.1 8 := by rw [← hwn 8 (by decide) (by decide)]; exact f1
  rw [eo] at fs
  rw [eo]
  by_cases c : f = n
  · have hr : r = 99 := by
      unfold FnOf at hf
      rw [w57] at hf
      rcases hf with ⟨a1, a2, _⟩ | ⟨_, _, a⟩ | ⟨_, a, _⟩ | ⟨_, a, _⟩
      · omega
      · exact a
      · exact absurd c a
      · exact absurd c a
    refine Or.inr ⟨by omega, ?_, ?_⟩
    · unfold Many
      rw [if_neg (by omega), if_neg (by omega), if_neg (by omega), if_pos hr]; exact w0
    · unfold Sp.arC Many
      rw [c, if_pos rfl, if_neg (by omega), if_neg (by omega), if_neg (by omega), if_pos hr]
  · have ne : ob u f ≠ ob u n := fun z => c ((hT.inj hU f0 f1' n0 n1).mp z)
    have hf' : FnOf u f r := by
      unfold FnOf at hf ⊢
      rw [w57, hw2, hwn 35 (by decide) (by decide)] at hf
      rw [h57]
      rcases hf with a | ⟨_, a, _⟩ | ⟨a1, _, a3⟩ | ⟨a1, _, a3⟩
      · exact Or.inl a
      · exact absurd a c
      · exact Or.inr (Or.inr (Or.inl ⟨a1, by omega, a3⟩))
      · exact Or.inr (Or.inr (Or.inr ⟨a1, by omega, a3⟩))
    have r99 : r ≠ 99 := by
      intro z
      unfold FnOf at hf'
      rw [h57] at hf'
      rcases hf' with ⟨_, _, a⟩ | ⟨_, a, _⟩ | ⟨_, _, d, d0, _, _, _, a⟩ | ⟨_, _, _, a⟩ <;> omega
    have em : Many w r = Many u r := by
      unfold Many
      rw [hw2, if_neg r99, if_neg r99]
    have := ArOk_env hT hU hD h57 f r f0 f1' fs hf'
    unfold Sp.arC
    rw [if_neg ne, em]
    exact this
theorem p_termE [DecidableEq Ob] {a : Int} {Q : Int → iST → Prop} {u : iST} {E : Sp.Env} (hT : TI u) (hU : TU u) (hD : DOk u E) (h57 : u.1 57 = -1) (a0 : 0 ≤ a) (a1 : a < u.1 8) (h71 : 0 ≤ u.1 71)
    (hq : ∀ k v, GM u v → v.1 61 = u.1 61 → (Ob.rdT (Sp.arOf E) (ob u a) = none ∧ k = -1) ∨ (Nd v E k ∧ (ob v k).sz ≤ 120 ∧ Ob.rdT (Sp.arOf E) (ob u a) = some (ob v k)) → Q k v) : pw_termOf a Q u := by
  have hs0 := fun f h => arOf_sym hD.names f h
  refine p_termOf hT hU (ArOk_env hT hU hD h57) hs0 a0 a1 h71 (fun k v gv v61 h => hq k v gv v61 ?_)
  rcases h with h | ⟨k0, k1, e, t⟩
  · exact Or.inl h
  · obtain ⟨w, z⟩ := rdT_wt hs0 e
    exact Or.inr ⟨⟨k0, k1, t, w⟩, z, e⟩
theorem p_take [DecidableEq Ob] {c : Int} {Q : iST → Prop} {u : iST} (h54 : 0 ≤ u.1 54) (hq : ∀ v, (∀ k, k ≠ 54 → v.1 k = u.1 k) → v.1 54 = u.1 54 + 1 → (∀ k, k ≠ 55 → k ≠ 56 → v.2.1 k = u.2.1 k) → (∀ i, v.2.1 55 i = if i = u.1 54 then c else u.2.1 55 i) → (∀ i, v.2.1 56 i = if i = u.1 54 then u.1 132 else u.2.1 56 i) → v.2.2 = u.2.2 → Q v) : pw_take c Q u := by
  unfold pw_take
  intro x ex _ _ _ w1 e1 y ey _ z ez _ _ _ w2 e2 t et _ _ w3 e3
  have hy : y = u.1 54 := by rw [ey, e1]; rfl
  have hz : z = u.1 132 := by rw [ez, e1]; rfl
  have ht : t = u.1 54 := by rw [et, e2, e1]; rfl
  rw [ht] at e3
  rw [hy, hz] at e2
  rw [ex] at e1
  refine hq w3 (fun k hk => by rw [e3, e2, e1]; exact if_neg hk) (by rw [e3]; rfl) (fun k a b => by rw [e3, e2, e1]; exact (if_neg b).trans (if_neg a)) (fun i => by rw [e3, e2, e1]; rfl) (fun i => by rw [e3, e2, e1]; rfl) (by rw [e3, e2, e1]; rfl)
