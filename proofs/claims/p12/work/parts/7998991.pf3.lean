-- deps: 799899
/-! an instance, an induction told -/
theorem WP_140 [DecidableEq Ob] (o : Ob) : 140 ≤ WP o := by
  cases o with
  | var x =>
    show (140 : Int) ≤ 140 * 1 - 7 * 0
    decide
  | op a b =>
    have h2 : 2 ≤ nwd false (.op a b) := by
      have ha := nwd_pos false a
      cases b with
      | var y =>
        have := nwd_pos true (.var y)
        show 2 ≤ 1 + nwd false a + nwd true (.var y)
        omega
      | op x c =>
        have hx := nwd_pos false x
        have := nwd_pos true (.op x c)
        show 2 ≤ if a = Ob.quote ∧ c = Ob.nil then 1 + nwd false x else 1 + nwd false a + nwd true (.op x c)
        split <;> omega
    have := (WP_nwd (.op a b)).1
    omega
theorem isVar_at [DecidableEq Ob] {x : Ob} (h : x.isVar = true) : ∃ y, x = .var y := by
  cases x with
  | var y => exact ⟨y, rfl⟩
  | op a b => cases h
theorem pair_wp [DecidableEq Ob] {p : Ob} (h : Ob.len p = 2) (hv : Ob.isVar (Ob.lft p) = true) : (Ob.lft p = Ob.quote → WP p = 126 + WP (Ob.item p 1)) ∧ (Ob.lft p ≠ Ob.quote → WP p = 406 + WP (Ob.item p 1)) := by
  obtain ⟨y, ey⟩ := isVar_at hv
  refine ⟨fun hq => ?_, fun hq => wp2 h hq (by rw [ey]; rfl) (by rw [ey]; rfl)⟩
  obtain ⟨f, x, e⟩ := shape2 h
  rw [e] at hq ⊢
  have hq : f = Ob.quote := hq
  unfold WP
  have e1 : nwd false (.op Ob.quote (.op x Ob.nil)) = 1 + nwd false x := nwd_quote x
  rw [hq, e1]
  show 140 * (1 + nwd false x) - 7 * (1 + 0 + (1 + npr x + 0)) = 126 + (140 * nwd false x - 7 * npr x)
  omega
theorem rdT_q [DecidableEq Ob] {ar : Ob → Int} {o T : Ob} (h : Ob.rdT ar o = some T) (hq : Ob.quote ∈ Ob.ptM false T) (hn : T ≠ Ob.quote) : 511 ≤ WP o := by
  unfold Ob.rdT at h
  cases e : Ob.rdM ar false o with
  | none => rw [e] at h; cases h
  | some x =>
    rw [e] at h
    have h : (if Ob.sz x ≤ 120 then some x else none) = some T := h
    have ex : x = T := by
      split at h
      · exact Option.some.inj h
      · cases h
    rw [ex] at e
    cases T with
    | var y => exact absurd (List.mem_singleton.mp (show Ob.quote ∈ [(.var y : Ob)] from hq)).symm hn
    | op f b =>
      obtain ⟨q1, q2⟩ := q_pr.mp hq
      cases b with
      | var y => cases q2
      | op b1 b2 =>
        cases o with
        | var y => cases (Option.some.inj (show some (.var y : Ob) = some (.op f (.op b1 b2)) from e))
        | op a c =>
          rw [show Ob.rdM ar false (.op a c) = _ from rdM_pr ar a c] at e
          by_cases ca : a = Ob.quote
          · rw [if_pos ca] at e
            exfalso
            split at e
            · have e := Option.some.inj e
              unfold Ob.constOf at e
              split at e
              · next hc =>
                rw [e] at hc
                have n1 : Ob.isNat (.op f (.op b1 b2)) = false := rfl
                rw [n1] at hc
                have n2 : (.op f (.op b1 b2) : Ob) ≠ Ob.nil := fun z => by cases z
                have n3 : (.op f (.op b1 b2) : Ob) ≠ Ob.t := fun z => by cases z
                rw [decide_eq_false n2, decide_eq_false n3] at hc
                cases hc
              · injection e with e1 e2
                exact q1 e1.symm
            · cases e
          · rw [if_neg ca] at e
            split at e
            · cases e
            · cases c with
              | var y =>
                have e : some (Ob.pr a (.var y)) = some (.op f (.op b1 b2)) := e
                have e := Option.some.inj e
                injection e with e1 e2
                cases e2
              | op c1 c2 =>
                have h1 := nwd_pos false a
                have h2 := nwd_pos false c1
                have h3 := nwd_pos true c2
                have h4 : nwd false (.op a (.op c1 c2)) = 1 + nwd false a + nwd true (.op c1 c2) := nwd_call ca
                have h5 : nwd true (.op c1 c2) = nwd false c1 + nwd true c2 := rfl
                have := (WP_nwd (.op a (.op c1 c2))).1
                omega
theorem pairs_hd [DecidableEq Ob] {E : Sp.Env} {p r : Ob} {ps : List (Ob × Ob)} (h : Sp.pairsOf E (.op p r) = some ps) : Ob.len p = 2 ∧ Ob.isVar (Ob.lft p) = true ∧ ∃ T, Ob.rdT (Sp.arOf E) (Ob.item p 1) = some T ∧ (∀ x, r = .var x → ps = [(Ob.lft p, T)]) ∧ ∀ p2 r2, r = .op p2 r2 → Ob.len p2 = 2 ∧ Ob.isVar (Ob.lft p2) = true ∧ Ob.lft p2 ≠ Ob.lft p := by
  unfold Sp.pairsOf at h
  split at h
  · cases h
  · have h : Sp.pairsGo E (p :: Ob.toList r) [] = some ps := h
    rw [pairsGo_cons] at h
    split at h
    · next c =>
      refine ⟨c.1, c.2.1, ?_⟩
      cases e : Ob.rdT (Sp.arOf E) (Ob.item p 1) with
      | none => rw [e] at h; cases h
      | some T =>
        rw [e] at h
        have h : Sp.pairsGo E (Ob.toList r) [(Ob.lft p, T)] = some ps := h
        refine ⟨T, rfl, fun x hx => ?_, fun p2 r2 hr => ?_⟩
        · rw [hx] at h
          exact (Option.some.inj (show some [(Ob.lft p, T)] = some ps from h)).symm
        · rw [hr] at h
          have h : Sp.pairsGo E (p2 :: Ob.toList r2) [(Ob.lft p, T)] = some ps := h
          rw [pairsGo_cons] at h
          split at h
          · next c2 =>
            refine ⟨c2.1, c2.2.1, fun z => ?_⟩
            have := c2.2.2
            rw [lk_cons, if_pos z.symm] at this
            cases this
          · cases h
    · cases h
section
variable {E : Sp.Env} {o : Ob}
theorem fb_inst [DecidableEq Ob] (h : Sp.isForm E o = true) (c : Ob.lft o = Ob.inst) : FmB E o := by
  rw [isForm_inst c, Bool.and_eq_true_iff, decide_eq_true_eq] at h
  obtain ⟨h1, h2⟩ := h
  cases o with
  | var x => rw [Ob.len_var] at h1; exfalso; split at h1 <;> omega
  | op f b =>
    cases b with
    | var x =>
      exfalso
      rw [Ob.len_pr, Ob.len_var] at h1
      split at h1
      · omega
      · split at h1 <;> omega
    | op P r =>
      have c : f = Ob.inst := c
      subst c
      have h2 : (Sp.pairsOf E r).isSome = true := h2
      have e0 : WP (.op Ob.inst (.op P r)) = 266 + WP P + WR r := by
        rw [WP_op (f := Ob.inst) (Ob.sym_ne (by decide)) rfl rfl, WR_op]
        omega
      have ep0 : Sp.partsOf (.op Ob.inst (.op P r)) = [P] := ptsC_inst (o := .op Ob.inst (.op P r)) rfl
      have ep : WPL (Sp.partsOf (.op Ob.inst (.op P r))) + (266 + WR r) = WP (.op Ob.inst (.op P r)) := by
        rw [ep0, e0]
        show WP P + 0 + (266 + WR r) = _
        omega
      have r140 := WR_140 r
      refine ⟨by omega, fun cs hl hb s => ?_⟩
      rw [ep0] at hl
      obtain ⟨Q, e⟩ := cs1 hl
      rw [e] at hb ⊢
      have bQ := hb Q List.mem_cons_self
      rw [concl_inst (o := .op Ob.inst (.op P r)) rfl]
      show CoB _ [Q] s (Sp.fills (Sp.fill (Ob.lkD ((Sp.pairsOf E r).getD []))) Q [] s)
      cases eps : Sp.pairsOf E r with
      | none => rw [eps] at h2; cases h2
      | some ps =>
        show CoB _ [Q] s (Sp.fills (Sp.fill (Ob.lkD ps)) Q [] s)
        cases r with
        | var x =>
          have ez : ps = [] := by
            unfold Sp.pairsOf at eps
            split at eps
            · cases eps
            · exact (Option.some.inj (show some [] = some ps from eps)).symm
          rw [ez]
          exact in_same (ps := []) ep (by omega) (fun a _ => sb_id false a) s
        | op p r =>
          obtain ⟨l2, hv, T, eT, k1, k2⟩ := pairs_hd eps
          obtain ⟨w1, w2⟩ := pair_wp l2 hv
          have eW := WR_op p r
          have t140 := WP_140 (Ob.item p 1)
          have r1 := WR_140 r
          by_cases cq : Ob.lft p = Ob.quote
          · have w1 := w1 cq
            cases r with
            | op p2 r2 =>
              obtain ⟨l3, hv3, ne⟩ := k2 p2 r2 rfl
              have w3 := (pair_wp l3 hv3).2 (by rw [← cq]; exact ne)
              have eW2 := WR_op p2 r2
              have t2 := WP_140 (Ob.item p2 1)
              have r2' := WR_140 r2
              exact in_gen bQ ep (by omega) s
            | var x =>
              rw [k1 x rfl, cq]
              by_cases t1 : T = Ob.quote
              · have ei : Ob.lkD [(Ob.quote, T)] = fun x => x := by
                  funext z
                  unfold Ob.lkD
                  rw [lk_cons]
                  by_cases cz : Ob.quote = z
                  · rw [if_pos cz, t1]; exact cz
                  · rw [if_neg cz]; rfl
                exact in_same ep (by omega) (fun a _ => by rw [ei]; exact sb_id false a) s
              · by_cases t2 : Ob.quote ∈ Ob.ptM false T
                · have := rdT_q eT t2 t1
                  exact in_gen bQ ep (by omega) s
                · exact in_quote bQ ep (by omega) t2 s
          · have w2 := w2 cq
            exact in_gen bQ ep (by omega) s
end
theorem csM_rd [DecidableEq Ob] {ar : Ob → Int} : ∀ (m : Bool) (o y : Ob), Ob.rdM ar m o = some y → Ob.csM m y ≤ Ob.csM m o
  | true, .op a b, y, h => by
    rw [show Ob.rdM ar true (.op a b) = _ from rdM_row ar a b] at h
    cases e1 : Ob.rdM ar false a with
    | none => rw [e1] at h; cases h
    | some x =>
      cases e2 : Ob.rdM ar true b with
      | none => rw [e1, e2] at h; cases h
      | some z =>
        rw [e1, e2] at h
        have h1 := csM_rd false a x e1
        have h2 := csM_rd true b z e2
        rw [← Option.some.inj h]
        show 1 + Ob.csM false x + Ob.csM true z ≤ 1 + Ob.csM false a + Ob.csM true b
        omega
  | true, .var x, y, h => by rw [← Option.some.inj (show some (.var x : Ob) = some y from h)]; exact Int.le_refl _
  | false, .var x, y, h => by rw [← Option.some.inj (show some (.var x : Ob) = some y from h)]; exact Int.le_refl _
  | false, .op a b, y, h => by
    rw [show Ob.rdM ar false (.op a b) = _ from rdM_pr ar a b] at h
    by_cases ca : a = Ob.quote
    · rw [if_pos ca] at h
      split at h
      · rw [← Option.some.inj h]
        have h0 := (csM_it false (.op a b)).1
        have : Ob.csM false (Ob.constOf (Ob.lft b)) = 0 := by
          unfold Ob.constOf
          split
          · next hc =>
            cases hb : Ob.lft b with
            | var z => rfl
            | op c d =>
              rw [hb] at hc
              have n1 : Ob.isNat (.op c d) = false := rfl
              have n2 : (.op c d : Ob) ≠ Ob.nil := fun z => by cases z
              have n3 : (.op c d : Ob) ≠ Ob.t := fun z => by cases z
              rw [n1, decide_eq_false n2, decide_eq_false n3] at hc
              cases hc
          · exact if_pos rfl
        omega
      · cases h
    · rw [if_neg ca] at h
      split at h
      · cases h
      · cases e2 : Ob.rdM ar true b with
        | none => rw [e2] at h; cases h
        | some z =>
          rw [e2] at h
          have h2 := csM_rd true b z e2
          rw [← Option.some.inj h]
          show (if a = Ob.quote then 0 else 1 + Ob.csM true z) ≤ (if a = Ob.quote then 0 else 1 + Ob.csM true b)
          rw [if_neg ca, if_neg ca]
          omega
theorem csM_rdT [DecidableEq Ob] {ar : Ob → Int} {o T : Ob} (h : Ob.rdT ar o = some T) : Ob.csM false T + 1 ≤ nwd false o := by
  unfold Ob.rdT at h
  cases e : Ob.rdM ar false o with
  | none => rw [e] at h; cases h
  | some x =>
    rw [e] at h
    have h : (if Ob.sz x ≤ 120 then some x else none) = some T := h
    have ex : x = T := by
      split at h
      · exact Option.some.inj h
      · cases h
    rw [ex] at e
    have h1 := csM_rd false o T e
    have h2 : Ob.csM false o + 1 ≤ nwd false o := csM_nwd false o
    omega
theorem hyC_2 [DecidableEq Ob] {f : Int} : ∀ cs : List Ob, (∀ c, c ∈ cs → c.isCall = true) → hyC f cs ≤ 2 * smL Ob.sz cs + f * (cs.length : Int)
  | [], _ => by
    show (0 : Int) ≤ 2 * 0 + f * ((0 : Nat) : Int)
    rw [show f * ((0 : Nat) : Int) = 0 from Int.mul_zero f]
    decide
  | c :: cs, h => by
    have ih := hyC_2 (f := f) cs (fun x hx => h x (List.mem_cons_of_mem _ hx))
    have h1 := h c List.mem_cons_self
    have a1 : csL (Ob.toList (Ob.rgt c)) + 1 ≤ Ob.csM false c := by
      cases c with
      | var x => cases h1
      | op a b =>
        have hq : a ≠ Ob.quote := of_decide_eq_true h1
        have e : Ob.csM false (.op a b) = 1 + Ob.csM true b := if_neg hq
        have := csM_list b
        show csL (Ob.toList b) + 1 ≤ _
        omega
    have a2 := csM_le c
    have el : (((c :: cs).length : Nat) : Int) = (cs.length : Int) + 1 := by rw [List.length_cons]; omega
    have em : f * ((cs.length : Int) + 1) = f * (cs.length : Int) + f := by rw [Int.mul_add, Int.mul_one]
    rw [el, em]
    show csL (Ob.toList (Ob.rgt c)) + f + 2 + hyC f cs ≤ 2 * (c.sz + smL Ob.sz cs) + (f * (cs.length : Int) + f)
    omega
theorem rwsC_2 [DecidableEq Ob] {f : Int} {n : Ob} (hn : n ≠ Ob.quote) : ∀ L : List (List (Ob × Bool) × Ob), (∀ p, p ∈ L → rsz p.1 + p.2.sz ≤ 120 ∧ (∀ c, c ∈ Sp.callsIn p.2 n → c.isCall = true ∧ ∀ a, a ∈ Ob.toList (Ob.rgt c) → Sp.hasCall a n = false)) → rwsC f n L ≤ 240 * (L.length : Int) + f * clN n L
  | [], _ => by
    show (0 : Int) ≤ 240 * ((0 : Nat) : Int) + f * 0
    rw [Int.mul_zero]
    decide
  | p :: L, h => by
    have ih := rwsC_2 (f := f) hn L (fun x hx => h x (List.mem_cons_of_mem _ hx))
    obtain ⟨h1, h2⟩ := h p List.mem_cons_self
    have a1 := (rsz_r p.1).2
    have a2 := hyC_2 (f := f) (Sp.callsIn p.2 n) (fun c hc => (h2 c hc).1)
    have a3 : smL Ob.sz (Sp.callsIn p.2 n) ≤ p.2.sz := flat_sum hn false p.2 (fun c hc => (h2 c hc).2)
    have el : (((p :: L).length : Nat) : Int) = (L.length : Int) + 1 := by rw [List.length_cons]; omega
    have em : f * (((Sp.callsIn p.2 n).length : Int) + clN n L) = f * ((Sp.callsIn p.2 n).length : Int) + f * clN n L := Int.mul_add _ _ _
    rw [el]
    show rlC p.1 + hyC f (Sp.callsIn p.2 n) + rwsC f n L ≤ 240 * ((L.length : Int) + 1) + f * (((Sp.callsIn p.2 n).length : Int) + clN n L)
    rw [em]
    omega
theorem ind_2 [DecidableEq Ob] {E : Sp.Env} {D : Sp.Dfn} {f : Int} (f0 : 0 ≤ f) (nb : D.name.isBase = false) (nq : D.name ≠ Ob.quote) (hd : E.dfn D.name = some D) (hw : Ob.wt (Sp.arOf E) D.body) (hz : D.body.sz ≤ 120) (hfl : Sp.flat D.name D.body = true) (hf : D.params.length = 0 → f = 0) : rwsC f D.name (Sp.paths D.body) ≤ 240 * ((Sp.paths D.body).length : Int) + 60 * f := by
  obtain ⟨s1, s2⟩ := path_sums (arOf_ifS E) (SizeOf.sizeOf D.body + 1) D.body (Nat.lt_succ_self _) hw
  obtain ⟨_, e2⟩ := paths_end (arOf_ifS E) (SizeOf.sizeOf D.body + 1) D.body (Nat.lt_succ_self _) hw
  have har := arOf_def nb hd
  have hc : ∀ p, p ∈ Sp.paths D.body → ∀ c, c ∈ Sp.callsIn p.2 D.name → c.isCall = true ∧ (D.params.length ≠ 0 → 2 ≤ c.sz) := by
    intro p hp c hc
    obtain ⟨_, w2, z2⟩ := e2 p hp
    obtain ⟨l, ec, hl, _⟩ := call_args w2 (by omega) nq har hc
    refine ⟨by rw [ec]; exact decide_eq_true nq, fun c0 => ?_⟩
    cases l with
    | nil => rw [List.length_nil] at hl; omega
    | cons a l =>
      have ha : 1 ≤ Ob.szM false a := (Ob.szM_pos false a).2 rfl
      have hr : 0 ≤ Ob.szM true (Ob.ofList l) := (Ob.szM_pos true (Ob.ofList l)).1
      rw [ec]
      show 2 ≤ (if D.name = Ob.quote then (1 : Int) else 1 + (Ob.szM false a + Ob.szM true (Ob.ofList l)))
      rw [if_neg nq]
      omega
  have r2 := rwsC_2 (f := f) nq (Sp.paths D.body) (fun p hp => ⟨by have := s2 p hp; omega, fun c h => ⟨(hc p hp c h).1, flat_path hfl hp h⟩⟩)
  by_cases c0 : D.params.length = 0
  · rw [hf c0] at r2 ⊢
    rw [Int.zero_mul] at r2
    omega
  · have gen : ∀ L : List (List (Ob × Bool) × Ob), (∀ p, p ∈ L → p ∈ Sp.paths D.body) → 2 * clN D.name L ≤ endS L := by
      intro L
      induction L with
      | nil => intro _; exact Int.le_refl _
      | cons p L ih =>
        intro hL
        have i2 := ih (fun q hq => hL q (List.mem_cons_of_mem _ hq))
        have hp := hL p List.mem_cons_self
        have fs : smL Ob.sz (Sp.callsIn p.2 D.name) ≤ p.2.sz := flat_sum nq false p.2 (fun c hc' => flat_path hfl hp hc')
        have l3 := (smL_len (cs := Sp.callsIn p.2 D.name)).2 (fun c h => (hc p hp c h).2 c0)
        show 2 * (((Sp.callsIn p.2 D.name).length : Int) + clN D.name L) ≤ p.2.sz + endS L
        omega
    have g := gen (Sp.paths D.body) (fun _ h => h)
    have pne : 1 ≤ ((Sp.paths D.body).length : Int) := by
      have := paths_ne D.body
      have : (Sp.paths D.body).length ≠ 0 := fun q => this (List.eq_nil_of_length_eq_zero q)
      omega
    have c60 : clN D.name (Sp.paths D.body) ≤ 60 := by omega
    have := Int.mul_le_mul_of_nonneg_left c60 f0
    omega
theorem rb_indParts [DecidableEq Ob] {D : Sp.Dfn} {vs : List Ob} {F : Ob} {f : Int} (f0 : 0 ≤ f) (hf : vs ≠ [] → Ob.csM false F ≤ f) : ∀ (L : List (List (Ob × Bool) × Ob)) (cs : List (List Ob)), NdB (rwsC f D.name L) (rwsC f D.name L) (fun _ => True) (Sp.indParts D vs F L cs)
  | [], _ => NdB.ret (Int.le_refl _) trivial
  | p :: L, [] => NdB.ret (rwsC_pos f0 (p :: L)) trivial
  | p :: L, c :: cs => by
    have w0 := rwsC_pos f0 (n := D.name) L
    have h1 := rlC_pos p.1
    have h2 := hyC_pos f0 (Sp.callsIn p.2 D.name)
    show NdB (rlC p.1 + hyC f (Sp.callsIn p.2 D.name) + rwsC f D.name L) (rlC p.1 + hyC f (Sp.callsIn p.2 D.name) + rwsC f D.name L) _ (Sp.bd (Sp.indRow D vs F p []) fun w => if c.all (Ob.has w) then Sp.indParts D vs F L cs else Sp.fail)
    exact NdB.bd (B := rwsC f D.name L) (F := rwsC f D.name L) (rb_indRow f0 hf p []) (fun l _ => NdB.ite (fun _ => rb_indParts f0 hf L cs) (fun _ => NdB.fail w0)) (by omega) (by omega) (by omega)
theorem NoT.indRow [DecidableEq Ob] {D : Sp.Dfn} {vs : List Ob} {F : Ob} {us : List Ob} {p : List (Ob × Bool) × Ob} : NoT (Sp.indRow D vs F p us) := NoT.bd (NoT.rulers _ _) (fun l => NoT.bd (NoT.hyps _ _) (fun l => NoT.bounded))
theorem NoT.indParts [DecidableEq Ob] {D : Sp.Dfn} {vs : List Ob} {F : Ob} : ∀ (L : List (List (Ob × Bool) × Ob)) (cs : List (List Ob)), NoT (Sp.indParts D vs F L cs)
  | [], _ => NoT.ret
  | p :: L, [] => NoT.ret
  | p :: L, c :: cs => NoT.bd NoT.indRow (fun w => NoT.ite (NoT.indParts L cs) NoT.fail)
theorem WPL_row [DecidableEq Ob] : ∀ b : Ob, WPL (Ob.toList b) + 140 ≤ WR b + 7 * ((Ob.toList b).length : Int)
  | .var x => by
    have := WR_140 (.var x)
    show (0 : Int) + 140 ≤ WR (.var x) + 7 * ((0 : Nat) : Int)
    omega
  | .op a b => by
    have ih := WPL_row b
    rw [WR_op]
    show WP a + WPL (Ob.toList b) + 140 ≤ WP a + WR b - 7 + 7 * (((Ob.toList b).length + 1 : Nat) : Int)
    omega
theorem sgL_low [DecidableEq Ob] : ∀ cs : List (List Ob), 401 * (cs.length : Int) ≤ sgL cs
  | [] => Int.le_refl _
  | c :: cs => by
    have ih := sgL_low cs
    have := vQ_r c
    show 401 * ((cs.length + 1 : Nat) : Int) ≤ 401 + 135 * vQ c + sgL cs
    omega
theorem fb_induct [DecidableEq Ob] {H : Sp.Hs} {o : Ob} (hH : Sp.HOk H) (fl : FlOk H) (h : Sp.isForm (H.env []) o = true) (c : Ob.lft o = Ob.induct) : FmB (H.env []) o := by
  rw [isForm_induct c, Bool.and_eq_true_iff, Bool.and_eq_true_iff, Bool.and_eq_true_iff, decide_eq_true_eq, beq_iff_eq] at h
  obtain ⟨⟨⟨h1, h2⟩, h3⟩, h4⟩ := h
  cases o with
  | var x => rw [Ob.len_var] at h1; exfalso; split at h1 <;> omega
  | op f b =>
    cases b with
    | var x =>
      exfalso
      rw [Ob.len_pr, Ob.len_var] at h1
      split at h1
      · omega
      · split at h1 <;> omega
    | op Fo b =>
      cases b with
      | var x =>
        exfalso
        rw [Ob.len_pr, Ob.len_pr, Ob.len_var] at h1
        split at h1
        · omega
        · split at h1
          · omega
          · split at h1 <;> omega
      | op cc r =>
        have c : f = Ob.induct := c
        subst c
        have h2 : (Ob.rdT (Sp.arOf (H.env [])) Fo).isSome = true := h2
        have h3 : Sp.indAsk (H.env []) cc = 0 := h3
        have h4 : (match (H.env []).dfn (Ob.lft cc) with | some D => Ob.len (.op Ob.induct (.op Fo (.op cc r))) == 3 + ((Sp.paths D.body).length : Int) | none => false) = true := h4
        cases ed : (H.env []).dfn (Ob.lft cc) with
        | none => rw [ed] at h4; cases h4
        | some D =>
          rw [ed] at h4
          have h4 : Ob.len (.op Ob.induct (.op Fo (.op cc r))) = 3 + ((Sp.paths D.body).length : Int) := eq_of_beq h4
          cases eF : Ob.rdT (Sp.arOf (H.env [])) Fo with
          | none => rw [eF] at h2; cases h2
          | some F =>
            have en : D.name = Ob.lft cc := (dfn_mem ed).2
            have hD := (dfn_mem ed).1
            obtain ⟨w1, w2, w3, w4⟩ := (HOk.wf hH).1 D hD
            obtain ⟨nb, ns, nq, _, _⟩ := isName_base w1
            have hv : (Ob.toList (Ob.rgt cc)).length = D.params.length := by
              unfold Sp.indAsk at h3
              split at h3
              · rw [ed] at h3
                have h3 : (if D.meas.isSome = true ∧ (D.params.length : Int) = Ob.len (Ob.rgt cc) then (0 : Int) else 2) = 0 := h3
                by_cases c2 : D.meas.isSome = true ∧ (D.params.length : Int) = Ob.len (Ob.rgt cc)
                · have := toList_len' (o := Ob.rgt cc) (by omega)
                  omega
                · rw [if_neg c2] at h3; cases h3
              · cases h3
            have cF := csM_rdT eF
            have cF0 := (csM_it false F).1
            have k1 := (WP_nwd Fo).1
            have k2 := WP_140 cc
            have kr := WPL_row r
            have e0 : WP (.op Ob.induct (.op Fo (.op cc r))) = 259 + WP Fo + WP cc + WR r := by
              rw [WP_op (f := Ob.induct) (Ob.sym_ne (by decide)) rfl rfl, WR_op, WR_op]
              omega
            have ep0 : Sp.partsOf (.op Ob.induct (.op Fo (.op cc r))) = Ob.toList r := ptsC_induct (o := .op Ob.induct (.op Fo (.op cc r))) rfl
            have lr : ((Ob.toList r).length : Int) = ((Sp.paths D.body).length : Int) := by
              have lo := Ob.len_low r
              rw [Ob.len_pr, Ob.len_pr, Ob.len_pr] at h4
              have : Ob.len r = ((Sp.paths D.body).length : Int) := by
                by_cases z : Ob.len r = -1
                · rw [if_pos z] at h4
                  exfalso
                  rw [if_pos rfl, if_pos rfl] at h4
                  omega
                · rw [if_neg z] at h4
                  rw [if_neg (by omega)] at h4
                  rw [if_neg (by omega)] at h4
                  omega
              have := toList_len' (o := r) (by omega)
              omega
            have pne : 1 ≤ ((Sp.paths D.body).length : Int) := by
              have := paths_ne D.body
              have : (Sp.paths D.body).length ≠ 0 := fun q => this (List.eq_nil_of_length_eq_zero q)
              omega
            obtain ⟨s1, _⟩ := path_sums (arOf_ifS (H.env [])) (SizeOf.sizeOf D.body + 1) D.body (Nat.lt_succ_self _) w3.1
            have el := endS_len (Sp.paths D.body)
            have z120 := w3.2.1
            have p61 : ((Sp.paths D.body).length : Int) ≤ 61 := by omega
            refine ⟨by rw [ep0, e0]; have := WP_140 Fo; omega, fun cs hl hb s => ?_⟩
            rw [ep0] at hl
            rw [concl_induct (o := .op Ob.induct (.op Fo (.op cc r))) rfl]
            show CoB _ cs s ((match (H.env []).dfn (Ob.lft cc) with | some D => Sp.bd (Sp.indParts D (Ob.toList (Ob.rgt cc)) ((Ob.rdT (Sp.arOf (H.env [])) Fo).getD Ob.nil) (Sp.paths D.body) cs) fun _ => Sp.ret [((Ob.rdT (Sp.arOf (H.env [])) Fo).getD Ob.nil)] | none => Sp.fail : Sp.M (List Ob)) s)
            rw [ed, eF]
            show CoB _ cs s (Sp.bd (Sp.indParts D (Ob.toList (Ob.rgt cc)) F (Sp.paths D.body) cs) (fun _ => Sp.ret [F]) s)
            have sl := sgL_low cs
            have g0 : (0 : Int) ≤ (if D.params.length = 0 then 0 else Ob.csM false F) := by split <;> omega
            have g1 : (if D.params.length = 0 then (0 : Int) else Ob.csM false F) ≤ Ob.csM false F := by split <;> omega
            have ib := ind_2 (E := H.env []) (D := D) (f := if D.params.length = 0 then 0 else Ob.csM false F) g0 nb nq (by rw [en]; exact ed) w3.1 w3.2.1 (fl D hD) (fun z => if_pos z)
            have rb := rb_indParts (D := D) (vs := Ob.toList (Ob.rgt cc)) (F := F) (f := if D.params.length = 0 then 0 else Ob.csM false F) g0 (fun hx => by
              rw [if_neg (fun z => hx (List.eq_nil_of_length_eq_zero (hv.trans z)))]
              exact Int.le_refl _) (Sp.paths D.body) cs
            refine CoB_of (A := 240 * ((Sp.paths D.body).length : Int) + 60 * Ob.csM false F) (Eb := 240 * ((Sp.paths D.body).length : Int) + 60 * Ob.csM false F) (P := fun _ => True) (NdB.bd (B := 0) (F := 0) rb (fun _ _ => NdB.ret (Int.le_refl _) trivial) (by omega) (by omega) (by omega)) (NoT.bd (NoT.indParts _ _) (fun _ => NoT.ret)) (fun l _ => ?_) ?_ s
            · have := vQ_r l
              rw [ep0, e0]
              omega
            · rw [ep0, e0]
              omega
