-- deps: 517
/-! what the specification says of defun, case by case -/
def Sp.RanD [DecidableEq Ob] (H : Sp.Hs) (fuel : Nat) (o : Ob) (r : Sp.Res) : Prop :=
    (match (if (Ob.len o = 4 ∨ Ob.len o = 5) ∧ Ob.isName (Ob.item o 1) ∧ Ob.len (Ob.item o 2) ≠ -1 ∧ (Ob.toList (Ob.item o 2)).length ≤ 6 ∧ Sp.areVars (Ob.toList (Ob.item o 2)) then Ob.rdT (Sp.arC (H.env []) (Ob.item o 1) (Ob.toList (Ob.item o 2)).length) (Ob.item o 3) else none) with
     | some B =>
        (match (if Ob.len o = 5 then (Ob.rdT (Sp.arC (H.env []) (Ob.item o 1) (Ob.toList (Ob.item o 2)).length) (Ob.item o 4)).map some else some none) with
         | some m => if (Sp.hasCall B (Ob.item o 1) ↔ m.isSome) ∧ ((Ob.parts B).all (fun x => !Ob.isVar x || Ob.has (Ob.toList (Ob.item o 2)) x)) ∧ (∀ M, M ∈ m → (Ob.parts M).all (fun x => !Ob.isVar x || Ob.has (Ob.toList (Ob.item o 2)) x) ∧ ¬ Sp.hasCall M (Ob.item o 1)) ∧ Sp.flat (Ob.item o 1) B then
             (if (Sp.Env.dfn (H.env []) (Ob.item o 1)).isSome ∨ H.1.length = 40 then r = Sp.nothing H
              else (match m with
                | none => r = (Sp.addDef H (Ob.item o 1, Ob.toList (Ob.item o 2), B, none), 0, 0, false)
                | some M => Sp.Proves (H.env []) H (Sp.addDef H (Ob.item o 1, Ob.toList (Ob.item o 2), B, some M)) fuel (Sp.measAll (Ob.toList (Ob.item o 2)) (Ob.item o 1) M (Sp.paths B)) r))
            else r = Sp.nothing H
         | none => r = Sp.nothing H)
     | none => r = Sp.nothing H)
theorem Ran_defun [DecidableEq Ob] {H : Sp.Hs} {fuel : Nat} {o : Ob} {r : Sp.Res} (h : Ob.lft o = Ob.defun) : Sp.RanD H fuel o r → Sp.Ran H fuel o r := by
  intro hr
  unfold Sp.Ran
  rw [if_neg (by rw [h]; exact Ob.sym_ne (by decide)), if_neg (by rw [h]; exact Ob.sym_ne (by decide)), if_neg (by rw [h]; rintro (z | z) <;> exact absurd z (Ob.sym_ne (by decide))), if_pos h]
  exact hr
theorem RanD_1 [DecidableEq Ob] {H : Sp.Hs} {fuel : Nat} {o : Ob} (h : ¬ ((Ob.len o = 4 ∨ Ob.len o = 5) ∧ Ob.isName (Ob.item o 1) = true ∧ Ob.len (Ob.item o 2) ≠ -1 ∧ (Ob.toList (Ob.item o 2)).length ≤ 6 ∧ Sp.areVars (Ob.toList (Ob.item o 2)) = true)) : Sp.RanD H fuel o (Sp.nothing H) := by
  unfold Sp.RanD
  rw [if_neg h]
theorem RanD_2 [DecidableEq Ob] {H : Sp.Hs} {fuel : Nat} {o : Ob} (h : Ob.rdT (Sp.arC (H.env []) (Ob.item o 1) (Ob.toList (Ob.item o 2)).length) (Ob.item o 3) = none) : Sp.RanD H fuel o (Sp.nothing H) := by
  unfold Sp.RanD
  split
  · next B e =>
    split at e
    · rw [h] at e; cases e
    · cases e
  · rfl
theorem RanD_3 [DecidableEq Ob] {H : Sp.Hs} {fuel : Nat} {o : Ob} (h5 : Ob.len o = 5) (h : Ob.rdT (Sp.arC (H.env []) (Ob.item o 1) (Ob.toList (Ob.item o 2)).length) (Ob.item o 4) = none) : Sp.RanD H fuel o (Sp.nothing H) := by
  unfold Sp.RanD
  split
  · rw [if_pos h5, h]
    rfl
  · rfl
/-- what comes of a function that may be taken -/
def Sp.dfR [DecidableEq Ob] (H : Sp.Hs) (fuel : Nat) (n : Ob) (xs : List Ob) (B : Ob) (m : Option Ob) (r : Sp.Res) : Prop := match m with
                | none => r = (Sp.addDef H (n, xs, B, none), 0, 0, false)
                | some M => Sp.Proves (H.env []) H (Sp.addDef H (n, xs, B, some M)) fuel (Sp.measAll xs n M (Sp.paths B)) r
/-- the terms are there -/
def Sp.dfOk [DecidableEq Ob] (o B : Ob) (m : Option Ob) : Prop := (Sp.hasCall B (Ob.item o 1) = true ↔ m.isSome = true) ∧ ((Ob.parts B).all (fun x => !Ob.isVar x || Ob.has (Ob.toList (Ob.item o 2)) x)) = true ∧ (∀ M, M ∈ m → (Ob.parts M).all (fun x => !Ob.isVar x || Ob.has (Ob.toList (Ob.item o 2)) x) = true ∧ ¬ Sp.hasCall M (Ob.item o 1) = true) ∧ Sp.flat (Ob.item o 1) B = true
theorem RanD_4 [DecidableEq Ob] {H : Sp.Hs} {fuel : Nat} {o B : Ob} {m : Option Ob} {r : Sp.Res} (h1 : (Ob.len o = 4 ∨ Ob.len o = 5) ∧ Ob.isName (Ob.item o 1) = true ∧ Ob.len (Ob.item o 2) ≠ -1 ∧ (Ob.toList (Ob.item o 2)).length ≤ 6 ∧ Sp.areVars (Ob.toList (Ob.item o 2)) = true) (h2 : Ob.rdT (Sp.arC (H.env []) (Ob.item o 1) (Ob.toList (Ob.item o 2)).length) (Ob.item o 3) = some B)
    (h3 : (if Ob.len o = 5 then (Ob.rdT (Sp.arC (H.env []) (Ob.item o 1) (Ob.toList (Ob.item o 2)).length) (Ob.item o 4)).map some else some none) = some m) :
    (¬ Sp.dfOk o B m → r = Sp.nothing H → Sp.RanD H fuel o r) ∧ (Sp.dfOk o B m → ((Sp.Env.dfn (H.env []) (Ob.item o 1)).isSome = true ∨ H.1.length = 40) → r = Sp.nothing H → Sp.RanD H fuel o r) ∧ (Sp.dfOk o B m → ¬ ((Sp.Env.dfn (H.env []) (Ob.item o 1)).isSome = true ∨ H.1.length = 40) → Sp.dfR H fuel (Ob.item o 1) (Ob.toList (Ob.item o 2)) B m r → Sp.RanD H fuel o r) := by
  refine ⟨fun a b => ?_, fun a b c => ?_, fun a b c => ?_⟩
  · unfold Sp.RanD
    rw [if_pos h1, h2]
    show (match (if Ob.len o = 5 then (Ob.rdT (Sp.arC (H.env []) (Ob.item o 1) (Ob.toList (Ob.item o 2)).length) (Ob.item o 4)).map some else some none) with | some m => _ | none => _)
    rw [h3]
    show (if _ then (if _ then _ else _) else _)
    unfold Sp.dfOk at a
    rw [if_neg a]
    exact b
  · unfold Sp.RanD
    rw [if_pos h1, h2]
    show (match (if Ob.len o = 5 then (Ob.rdT (Sp.arC (H.env []) (Ob.item o 1) (Ob.toList (Ob.item o 2)).length) (Ob.item o 4)).map some else some none) with | some m => _ | none => _)
    rw [h3]
    show (if _ then (if _ then _ else _) else _)
    unfold Sp.dfOk at a
    rw [if_pos a, if_pos b]
    exact c
  · unfold Sp.RanD
    rw [if_pos h1, h2]
    show (match (if Ob.len o = 5 then (Ob.rdT (Sp.arC (H.env []) (Ob.item o 1) (Ob.toList (Ob.item o 2)).length) (Ob.item o 4)).map some else some none) with | some m => _ | none => _)
    rw [h3]
    show (if _ then (if _ then _ else _) else _)
    unfold Sp.dfOk at a
    rw [if_pos a, if_neg b]
    exact c
/-! functions that are coming -/
theorem dfn_cons [DecidableEq Ob] {ds : List Sp.Dfn} {D : Sp.Dfn} {t : List Sp.Thm} {m : List Ob} (f : Ob) : Sp.Env.dfn (D :: ds, t, m) f = if D.name = f then some D else Sp.Env.dfn (ds, t, m) f := by
  unfold Sp.Env.dfn
  show (D :: ds).find? (fun d => decide (Sp.Dfn.name d = f)) = _
  by_cases c : D.name = f
  · rw [if_pos c, List.find?_cons_of_pos (by exact decide_eq_true c)]
  · rw [if_neg c, List.find?_cons_of_neg (by simpa using c)]
theorem arOf_cons' [DecidableEq Ob] {ds : List Sp.Dfn} {D : Sp.Dfn} {t : List Sp.Thm} {m : List Ob} (hb : D.name.isBase = false) (f : Ob) : Sp.arOf (D :: ds, t, m) f = Sp.arC (ds, t, m) D.name (D.params.length : Int) f := by
  have nb : ∀ o : Ob, Ob.isBase o = true → D.name ≠ o := fun o ho z => by rw [z, ho] at hb; cases hb
  unfold Sp.arC
  by_cases c : f = D.name
  · rw [if_pos c, c]
    unfold Sp.arOf
    rw [if_neg (nb _ isBase_ifS), if_neg (by
      rintro (z | z | z | z | z | z)
      · exact nb _ isBase_equal z
      · exact nb _ isBase_cons z
      · exact nb _ isBase_implies z
      · exact nb _ isBase_plus z
      · exact nb _ isBase_minus z
      · exact nb _ isBase_less z), if_neg (by rw [hb]; decide), dfn_cons, if_pos rfl]
  · rw [if_neg c]
    unfold Sp.arOf
    rw [dfn_cons, if_neg (show ¬ D.name = f from fun z => c z.symm)]
theorem wt_dropM [DecidableEq Ob] {E : Sp.Env} {n : Ob} {k : Int} : ∀ (m : Bool) (o : Ob), Ob.wtM (Sp.arC E n k) m o → (Ob.ptM m o).any (fun x => Ob.isCallOf x n) = false → Ob.wtM (Sp.arOf E) m o
  | true, .op a b, h, hn => by
    rw [show Ob.ptM true (.op a b) = _ from pt_row a b, List.any_append, Bool.or_eq_false_iff] at hn
    exact ⟨wt_dropM false a h.1 hn.1, wt_dropM true b h.2 hn.2⟩
  | true, .var _, h, _ => h
  | false, .var _, h, _ => h
  | false, .op a b, h, hn => by
    refine ⟨h.1, fun hq => ?_⟩
    rw [show Ob.ptM false (.op a b) = _ from pt_pr a b, if_neg hq, List.any_cons, Bool.or_eq_false_iff] at hn
    obtain ⟨h1, h2, h3⟩ := h.2 hq
    have ha : a ≠ n := of_decide_eq_false hn.1
    exact ⟨h1, by rw [h2]; unfold Sp.arC; rw [if_neg ha], wt_dropM true b h3 hn.2⟩
theorem wt_drop [DecidableEq Ob] {E : Sp.Env} {n o : Ob} {k : Int} (h : Ob.wt (Sp.arC E n k) o) (hn : Sp.hasCall o n = false) : Ob.wt (Sp.arOf E) o := wt_dropM false o h hn
theorem ptM_wt [DecidableEq Ob] {ar : Ob → Int} : ∀ (m : Bool) (o : Ob), Ob.wtM ar m o → ∀ x, x ∈ Ob.ptM m o → Ob.wt ar x
  | true, .op a b, h, x, hx => by
    rw [show Ob.ptM true (.op a b) = _ from pt_row a b] at hx
    rcases List.mem_append.mp hx with q | q
    · exact ptM_wt false a h.1 x q
    · exact ptM_wt true b h.2 x q
  | true, .var _, _, x, hx => by cases hx
  | false, .var z, _, x, hx => by
    have : x = .var z := List.mem_singleton.mp hx
    rw [this]; trivial
  | false, .op a b, h, x, hx => by
    rw [show Ob.ptM false (.op a b) = _ from pt_pr a b] at hx
    split at hx
    · rw [List.mem_singleton.mp hx]; exact h
    · next hq =>
      rcases List.mem_cons.mp hx with q | q
      · rw [q]; exact h
      · exact ptM_wt true b (h.2 hq).2.2 x q
/-- what flat gives -/
theorem flat_wt [DecidableEq Ob] {E : Sp.Env} {n B : Ob} {k : Nat} {xs : List Ob} (hxs : xs.length = k) (hE : ∃ E' : Sp.Env, ∀ f, Sp.arOf E' f = Sp.arC E n (k : Int) f) (hnq : n ≠ Ob.quote) (hw : Ob.wt (Sp.arC E n (k : Int)) B) (hf : Sp.flat n B = true) :
    ∀ p, p ∈ Sp.paths B → (∀ q, q ∈ p.1 → Ob.wt (Sp.arOf E) q.1) ∧ ∀ c, c ∈ Sp.callsIn p.2 n → ∃ l, c = .pr n (Ob.ofList l) ∧ l.length = xs.length ∧ ∀ a, a ∈ l → Ob.wt (Sp.arOf E) a := by
  obtain ⟨E', hE'⟩ := hE
  have ear : Sp.arOf E' = Sp.arC E n (k : Int) := funext hE'
  intro p hp
  obtain ⟨w1, w2⟩ := paths_wt (E := E') (SizeOf.sizeOf B + 1) B (Nat.lt_succ_self _) (by rw [ear]; exact hw) p hp
  rw [ear] at w1 w2
  have hf := List.all_eq_true.mp hf p hp
  rw [Bool.and_eq_true, List.all_eq_true, List.all_eq_true] at hf
  refine ⟨fun q hq => wt_drop (w1 q hq) (by have := hf.1 q hq; simpa using this), fun c hc => ?_⟩
  have hc' := List.mem_filter.mp hc
  have wc : Ob.wt (Sp.arC E n (k : Int)) c := ptM_wt false p.2 w2 c hc'.1
  have hcall : c.isCall = true := by
    obtain ⟨b, e⟩ := Ob.isCallOf_iff.mp hc'.2
    rw [e, isCall_pr]; exact decide_eq_true hnq
  obtain ⟨f, l, e, h1, h2, h3, h4⟩ := Ob.wt_call wc hcall
  have hfn : f = n := by
    have := hc'.2
    rw [e, Ob.isCallOf_pr] at this
    exact of_decide_eq_true this
  rw [hfn] at e h3
  refine ⟨l, e, ?_, fun a ha => wt_drop (h4 a ha) ?_⟩
  · unfold Sp.arC at h3
    rw [if_pos rfl] at h3
    omega
  · have := hf.2 c hc
    rw [e, Ob.rgt_pr, Ob.toList_ofList] at this
    have := List.all_eq_true.mp this a ha
    simpa using this
