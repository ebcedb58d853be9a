-- deps: 799894
/-! the clauses fit -/
theorem NoT.bounded [DecidableEq Ob] {l : List Ob} : NoT (Sp.bounded l) := by
  unfold Sp.bounded
  exact NoT.ite NoT.ret (fun _ => ⟨rfl, Nat.le_refl _⟩)
theorem NoT.rulers [DecidableEq Ob] {σ : Ob → Ob} : ∀ (ps : List (Ob × Bool)) (l : List Ob), NoT (Sp.rulersGo σ ps l)
  | [], _ => NoT.ret
  | (q, third) :: ps, l => NoT.bd NoT.big (fun x => NoT.bd (NoT.ite NoT.not NoT.ret) (fun r => NoT.bd NoT.not (fun y => NoT.rulers ps _)))
theorem NoT.hyps [DecidableEq Ob] {D : Sp.Dfn} {vs : List Ob} {F : Ob} : ∀ (cs l : List Ob), NoT (Sp.hypsGo D vs F cs l)
  | [], _ => NoT.ret
  | c :: cs, l => NoT.bd (NoT.rwArgs (fun _ => NoT.big) _) (fun as => NoT.bd NoT.big (fun x => NoT.bd NoT.not (fun y => NoT.hyps cs _)))
theorem NoT.indAll [DecidableEq Ob] {D : Sp.Dfn} {vs : List Ob} {F : Ob} {us : List Ob} : ∀ L : List (List (Ob × Bool) × Ob), NoT (Sp.indAll D vs F us L)
  | [] => NoT.ret
  | p :: L => NoT.bd (NoT.bd (NoT.rulers _ _) (fun l => NoT.bd (NoT.hyps _ _) (fun l => NoT.bounded))) (fun l => NoT.bd (NoT.indAll L) (fun cl => NoT.ret))
theorem NoT.measGo [DecidableEq Ob] {xs : List Ob} {m : Ob} {rs : List (Ob × Bool)} : ∀ cs : List Ob, NoT (Sp.measGo xs m rs cs)
  | [] => NoT.ret
  | c :: cs => NoT.bd (NoT.rulers _ _) (fun l => NoT.bd NoT.big (fun m2 => NoT.bd NoT.big (fun y => NoT.bd NoT.bounded (fun l => NoT.bd (NoT.measGo cs) (fun cl => NoT.ret)))))
theorem NoT.measAll [DecidableEq Ob] {xs : List Ob} {f m : Ob} : ∀ L : List (List (Ob × Bool) × Ob), NoT (Sp.measAll xs f m L)
  | [] => NoT.ret
  | p :: L => NoT.bd (NoT.measGo _) (fun a => NoT.bd (NoT.measAll L) (fun b => NoT.ret))
/-- a bound on what makes no STEP -/
theorem NdB.noT [DecidableEq Ob] {α : Type} {A E : Int} {P : α → Prop} {m : Sp.M α} (h : NdB A E P m) (n : NoT m) (s : Sp.Wk) : (∀ a s', m s = .ok a s' → P a ∧ s'.1 = s.1 ∧ (s'.2 : Int) ≤ (s.2 : Int) + A) ∧ ∀ x s', m s = .error x s' → s'.1 = s.1 ∧ (s'.2 : Int) ≤ (s.2 : Int) + E := by
  have q := h s
  have t := (n s).1
  refine ⟨fun a s' e => ?_, fun x s' e => ?_⟩
  · rw [e] at q t
    have t : s'.1 = s.1 := t
    obtain ⟨q1, q2, q3⟩ := q
    exact ⟨q1, t, by omega⟩
  · rw [e] at q t
    have t : s'.1 = s.1 := t
    obtain ⟨q1, q2⟩ := q
    exact ⟨t, by omega⟩
/-! PATHS -/
def rsz [DecidableEq Ob] : List (Ob × Bool) → Int | [] => 0 | q :: l => q.1.sz + 2 + rsz l
theorem rsz_r [DecidableEq Ob] : ∀ l : List (Ob × Bool), 3 * (l.length : Int) ≤ rsz l ∧ rlC l ≤ 2 * rsz l
  | [] => ⟨Int.le_refl _, Int.le_refl _⟩
  | q :: l => by
    obtain ⟨h1, h2⟩ := rsz_r l
    have h3 : 1 ≤ q.1.sz := (Ob.szM_pos false q.1).2 rfl
    have h4 := csM_le q.1
    refine ⟨?_, ?_⟩
    · show 3 * ((l.length + 1 : Nat) : Int) ≤ q.1.sz + 2 + rsz l
      omega
    · show Ob.csM false q.1 + 4 + rlC l ≤ 2 * (q.1.sz + 2 + rsz l)
      omega
theorem path_sums [DecidableEq Ob] {ar : Ob → Int} (har : ar Ob.ifS = 3) : ∀ (n : Nat) (o : Ob), SizeOf.sizeOf o < n → Ob.wt ar o → endS (Sp.paths o) + 2 * ((Sp.paths o).length : Int) ≤ o.sz + 2 ∧ ∀ p, p ∈ Sp.paths o → rsz p.1 + p.2.sz ≤ o.sz
  | 0, _, h, _ => absurd h (Nat.not_lt_zero _)
  | n + 1, o, h, hw => by
    by_cases c : o.isCallOf Ob.ifS = true
    · obtain ⟨q, b, d, eo, wq, wb, wd⟩ := Ob.wt_three hw c (Ob.sym_ne (by decide)) har
      have hs : SizeOf.sizeOf o = 1 + SizeOf.sizeOf Ob.ifS + (1 + SizeOf.sizeOf q + (1 + SizeOf.sizeOf b + (1 + SizeOf.sizeOf d + SizeOf.sizeOf Ob.nil))) := by rw [eo]; rfl
      obtain ⟨b1, b2⟩ := path_sums har n b (by omega) wb
      obtain ⟨d1, d2⟩ := path_sums har n d (by omega) wd
      have szo := sz_if q b d
      rw [← eo] at szo
      have sq : 1 ≤ q.sz := (Ob.szM_pos false q).2 rfl
      have sb : 1 ≤ b.sz := (Ob.szM_pos false b).2 rfl
      have sd : 1 ≤ d.sz := (Ob.szM_pos false d).2 rfl
      have ep : Sp.paths o = (Sp.paths b).map (fun p => ((q, false) :: p.1, p.2)) ++ (Sp.paths d).map (fun p => ((q, true) :: p.1, p.2)) := by rw [eo]; exact paths_if q b d
      rw [ep, endS_app, endS_map (f := fun p => ((q, false) :: p.1, p.2)) (fun _ => rfl), endS_map (f := fun p => ((q, true) :: p.1, p.2)) (fun _ => rfl), List.length_append, List.length_map, List.length_map]
      refine ⟨by omega, fun p hp => ?_⟩
      rcases List.mem_append.mp hp with hp | hp
      · obtain ⟨p', hp', e⟩ := List.mem_map.mp hp
        have := b2 p' hp'
        rw [← e]
        show q.sz + 2 + rsz p'.1 + p'.2.sz ≤ o.sz
        omega
      · obtain ⟨p', hp', e⟩ := List.mem_map.mp hp
        have := d2 p' hp'
        rw [← e]
        show q.sz + 2 + rsz p'.1 + p'.2.sz ≤ o.sz
        omega
    · rw [paths_no (bf_of (fun q => c q))]
      refine ⟨?_, fun p hp => ?_⟩
      · show o.sz + 0 + 2 * ((1 : Nat) : Int) ≤ o.sz + 2
        omega
      · rcases List.mem_cons.mp hp with e | e
        · rw [e]; show (0 : Int) + o.sz ≤ o.sz; omega
        · cases e
/-- calls that are not within each other -/
theorem noc_row [DecidableEq Ob] {f : Ob} : ∀ b : Ob, (∀ a, a ∈ Ob.toList b → Sp.hasCall a f = false) → (Ob.ptM true b).filter (fun x => Ob.isCallOf x f) = []
  | .var _, _ => rfl
  | .op a b, h => by
    rw [show Ob.ptM true (.op a b) = _ from pt_row a b, List.filter_append, noc_row b (fun x hx => h x (List.mem_cons_of_mem _ hx)), List.append_nil]
    have ha : (Ob.ptM false a).any (fun x => Ob.isCallOf x f) = false := h a List.mem_cons_self
    refine List.filter_eq_nil_iff.mpr (fun x hx q => ?_)
    have : (Ob.ptM false a).any (fun x => Ob.isCallOf x f) = true := List.any_eq_true.mpr ⟨x, hx, q⟩
    rw [ha] at this
    cases this
theorem smL_app [DecidableEq Ob] (h : Ob → Int) : ∀ a b : List Ob, smL h (a ++ b) = smL h a + smL h b
  | [], b => by show smL h b = 0 + smL h b; omega
  | x :: a, b => by
    have := smL_app h a b
    show h x + smL h (a ++ b) = h x + smL h a + smL h b
    omega
theorem flat_sum [DecidableEq Ob] {f : Ob} (hf : f ≠ Ob.quote) : ∀ (m : Bool) (o : Ob), (∀ c, c ∈ (Ob.ptM m o).filter (fun x => Ob.isCallOf x f) → ∀ a, a ∈ Ob.toList (Ob.rgt c) → Sp.hasCall a f = false) → smL Ob.sz ((Ob.ptM m o).filter (fun x => Ob.isCallOf x f)) ≤ Ob.szM m o
  | true, .var _, _ => Int.le_refl _
  | true, .op a b, h => by
    rw [show Ob.ptM true (.op a b) = _ from pt_row a b] at h ⊢
    rw [List.filter_append] at h ⊢
    have h1 := flat_sum hf false a (fun c hc => h c (List.mem_append_left _ hc))
    have h2 := flat_sum hf true b (fun c hc => h c (List.mem_append_right _ hc))
    rw [smL_app]
    show _ ≤ Ob.szM false a + Ob.szM true b
    omega
  | false, .var x, _ => by
    have : (Ob.ptM false (.var x)).filter (fun x => Ob.isCallOf x f) = [] := rfl
    rw [this]
    show (0 : Int) ≤ 1
    decide
  | false, .op a b, h => by
    rw [show Ob.ptM false (.op a b) = _ from pt_pr a b] at h ⊢
    by_cases c : a = Ob.quote
    · rw [if_pos c] at h ⊢
      have e : ([Ob.pr a b]).filter (fun x => Ob.isCallOf x f) = [] := by
        rw [List.filter_cons, if_neg (by rw [Ob.isCallOf_pr]; exact fun q => hf ((of_decide_eq_true q).symm.trans c))]
        rfl
      rw [e]
      exact (Ob.szM_pos false (.op a b)).1
    · rw [if_neg c] at h ⊢
      rw [List.filter_cons] at h ⊢
      have es : Ob.szM false (.op a b) = 1 + Ob.szM true b := if_neg c
      by_cases q : Ob.isCallOf (.pr a b) f = true
      · rw [if_pos q] at h ⊢
        have hn := noc_row b (h (.pr a b) List.mem_cons_self)
        rw [hn]
        show Ob.sz (.pr a b) + 0 ≤ Ob.szM false (.op a b)
        show Ob.szM false (.op a b) + 0 ≤ _
        omega
      · rw [if_neg q] at h ⊢
        have := flat_sum hf true b h
        omega
theorem hyC_le [DecidableEq Ob] {f : Int} (f0 : 0 ≤ f) (f1 : f ≤ 239) : ∀ cs : List Ob, (∀ c, c ∈ cs → c.isCall = true ∧ (2 ≤ c.sz ∨ f = 0)) → 2 * hyC f cs ≤ 245 * smL Ob.sz cs
  | [], _ => Int.le_refl _
  | c :: cs, h => by
    have ih := hyC_le f0 f1 cs (fun x hx => h x (List.mem_cons_of_mem _ hx))
    obtain ⟨h1, h2⟩ := h c List.mem_cons_self
    have a1 : csL (Ob.toList (Ob.rgt c)) + 1 ≤ Ob.csM false c := by
      cases c with
      | var x => cases h1
      | op a b =>
        have hq : a ≠ Ob.quote := of_decide_eq_true h1
        have e : Ob.csM false (.op a b) = 1 + Ob.csM true b := if_neg hq
        have := csM_list b
        show csL (Ob.toList b) + 1 ≤ _
        omega
    have a2 := csM_le c
    have a3 : 1 ≤ c.sz := (Ob.szM_pos false c).2 rfl
    show 2 * (csL (Ob.toList (Ob.rgt c)) + f + 2 + hyC f cs) ≤ 245 * (c.sz + smL Ob.sz cs)
    rcases h2 with h2 | h2 <;> omega
theorem rwsC_le [DecidableEq Ob] {f : Int} (f0 : 0 ≤ f) (f1 : f ≤ 239) {n : Ob} (hn : n ≠ Ob.quote) : ∀ L : List (List (Ob × Bool) × Ob), (∀ p, p ∈ L → rsz p.1 + p.2.sz ≤ 120 ∧ (∀ c, c ∈ Sp.callsIn p.2 n → (c.isCall = true ∧ (2 ≤ c.sz ∨ f = 0)) ∧ ∀ a, a ∈ Ob.toList (Ob.rgt c) → Sp.hasCall a n = false)) → 2 * rwsC f n L ≤ 480 * (L.length : Int) + 241 * endS L
  | [], _ => Int.le_refl _
  | p :: L, h => by
    have ih := rwsC_le f0 f1 hn L (fun x hx => h x (List.mem_cons_of_mem _ hx))
    obtain ⟨h1, h2⟩ := h p List.mem_cons_self
    have a1 := (rsz_r p.1).2
    have a2 := hyC_le f0 f1 (Sp.callsIn p.2 n) (fun c hc => (h2 c hc).1)
    have a3 : smL Ob.sz (Sp.callsIn p.2 n) ≤ p.2.sz := flat_sum hn false p.2 (fun c hc => (h2 c hc).2)
    have el : (((p :: L).length : Nat) : Int) = (L.length : Int) + 1 := by rw [List.length_cons]; omega
    rw [el]
    show 2 * (rlC p.1 + hyC f (Sp.callsIn p.2 n) + rwsC f n L) ≤ 480 * ((L.length : Int) + 1) + 241 * (p.2.sz + endS L)
    omega
theorem flat_path [DecidableEq Ob] {n X : Ob} (h : Sp.flat n X = true) {p : List (Ob × Bool) × Ob} (hp : p ∈ Sp.paths X) {c : Ob} (hc : c ∈ Sp.callsIn p.2 n) : ∀ a, a ∈ Ob.toList (Ob.rgt c) → Sp.hasCall a n = false := fun a ha => by
  have q := List.all_eq_true.mp h p hp
  rw [Bool.and_eq_true, List.all_eq_true, List.all_eq_true] at q
  have q2 := List.all_eq_true.mp (q.2 c hc) a ha
  simpa using q2
/-- what an induction by a defined function makes -/
theorem ind_b [DecidableEq Ob] {E : Sp.Env} {D : Sp.Dfn} {n : Nat} (nb : D.name.isBase = false) (nq : D.name ≠ Ob.quote) (hd : E.dfn D.name = some D) (hw : Ob.wt (Sp.arOf E) D.body) (hz : D.body.sz ≤ 120) (hfl : Sp.flat D.name D.body = true) (hn : n = D.params.length) : rwsC (if n = 0 then 0 else 239) D.name (Sp.paths D.body) ≤ 14701 := by
  obtain ⟨s1, s2⟩ := path_sums (arOf_ifS E) (SizeOf.sizeOf D.body + 1) D.body (Nat.lt_succ_self _) hw
  obtain ⟨_, e2⟩ := paths_end (arOf_ifS E) (SizeOf.sizeOf D.body + 1) D.body (Nat.lt_succ_self _) hw
  have har := arOf_def nb hd
  have := rwsC_le (f := if n = 0 then 0 else 239) (by split <;> decide) (by split <;> decide) nq (Sp.paths D.body) (fun p hp => ⟨by have := s2 p hp; omega, fun c hc => ⟨?_, flat_path hfl hp hc⟩⟩)
  · omega
  · obtain ⟨_, w2, z2⟩ := e2 p hp
    obtain ⟨l, ec, hl, _⟩ := call_args w2 (by omega) nq har hc
    refine ⟨by rw [ec]; exact decide_eq_true nq, ?_⟩
    by_cases c0 : n = 0
    · exact Or.inr (if_pos c0)
    · refine Or.inl ?_
      cases l with
      | nil => rw [List.length_nil] at hl; omega
      | cons a l =>
        have ha : 1 ≤ Ob.szM false a := (Ob.szM_pos false a).2 rfl
        have hr : 0 ≤ Ob.szM true (Ob.ofList l) := (Ob.szM_pos true (Ob.ofList l)).1
        rw [ec]
        show 2 ≤ (if D.name = Ob.quote then (1 : Int) else 1 + (Ob.szM false a + Ob.szM true (Ob.ofList l)))
        rw [if_neg nq]
        omega
