-- deps: 7998991
/-! what a PROOF makes; a run fits -/
theorem WPL_pos [DecidableEq Ob] : ∀ l : List Ob, 0 ≤ WPL l
  | [] => Int.le_refl _
  | a :: l => by
    have h1 := WP_140 a
    have h2 := WPL_pos l
    show 0 ≤ WP a + WPL l
    omega
def PfB [DecidableEq Ob] (o : Ob) (s : Sp.Wk) (R : EStateM.Result Unit Sp.Wk (List Ob)) : Prop :=
  match R with
  | .ok l s' => CbQ l ∧ (s'.2 : Int) + 401 + 135 * vQ l ≤ (s.2 : Int) + WP o
  | .error _ s' => (s'.2 : Int) ≤ (s.2 : Int) + WP o + 800
def PpB [DecidableEq Ob] (L : List Ob) (s : Sp.Wk) (R : EStateM.Result Unit Sp.Wk (List (List Ob))) : Prop :=
  match R with
  | .ok cs s' => cs.length = L.length ∧ (∀ c, c ∈ cs → CbQ c) ∧ (s'.2 : Int) + sgL cs ≤ (s.2 : Int) + WPL L
  | .error _ s' => (s'.2 : Int) ≤ (s.2 : Int) + WPL L + 800
theorem pp_b [DecidableEq Ob] {r : Ob → Sp.M (List Ob)} (h : ∀ o s, PfB o s (r o s)) : ∀ (L : List Ob) (s : Sp.Wk), PpB L s (Sp.pfParts r L s)
  | [], s => ⟨rfl, (fun c hc => by cases hc), by show (s.2 : Int) + 0 ≤ (s.2 : Int) + 0; omega⟩
  | a :: l, s => by
    show PpB (a :: l) s (Sp.bd (r a) (fun c => Sp.bd (Sp.pfParts r l) fun cs => Sp.ret (c :: cs)) s)
    have q := h a s
    have w := WPL_pos l
    cases e : r a s with
    | error x s1 =>
      rw [e] at q
      have q : (s1.2 : Int) ≤ (s.2 : Int) + WP a + 800 := q
      rw [bind_err e]
      show (s1.2 : Int) ≤ (s.2 : Int) + (WP a + WPL l) + 800
      omega
    | ok c s1 =>
      rw [e] at q
      obtain ⟨q1, q2⟩ := q
      have q2 : (s1.2 : Int) + 401 + 135 * vQ c ≤ (s.2 : Int) + WP a := q2
      have v := vQ_r c
      rw [bind_ok e]
      have ih := pp_b h l s1
      cases e2 : Sp.pfParts r l s1 with
      | error x s2 =>
        rw [e2] at ih
        have ih : (s2.2 : Int) ≤ (s1.2 : Int) + WPL l + 800 := ih
        rw [bind_err e2]
        show (s2.2 : Int) ≤ (s.2 : Int) + (WP a + WPL l) + 800
        omega
      | ok cs s2 =>
        rw [e2] at ih
        obtain ⟨i1, i2, i3⟩ := ih
        have i3 : (s2.2 : Int) + sgL cs ≤ (s1.2 : Int) + WPL l := i3
        rw [bind_ok e2]
        refine ⟨by rw [List.length_cons, List.length_cons, i1], fun d hd => ?_, ?_⟩
        · rcases List.mem_cons.mp hd with z | z
          · rw [z]; exact q1
          · exact i2 d z
        · show (s2.2 : Int) + (401 + 135 * vQ c + sgL cs) ≤ (s.2 : Int) + (WP a + WPL l)
          omega
section
variable {H : Sp.Hs}
theorem form_b [DecidableEq Ob] {o : Ob} (hH : Sp.HOk H) (fl : FlOk H) (h : Sp.isForm (H.env []) o = true) : FmB (H.env []) o := by
  by_cases c1 : Ob.lft o = Ob.taut
  · exact fb_taut h c1
  by_cases c2 : Ob.lft o = Ob.same
  · exact fb_same h c2
  by_cases c3 : Ob.lft o = Ob.value
  · exact fb_value h c3
  by_cases c4 : Ob.lft o = Ob.first
  · exact fb_first h c4
  by_cases c5 : Ob.lft o = Ob.second
  · exact fb_second h c5
  by_cases c6 : Ob.lft o = Ob.pair
  · exact fb_pair h c6
  by_cases c7 : Ob.lft o = Ob.yes
  · exact fb_yes h c7
  by_cases c8 : Ob.lft o = Ob.no
  · exact fb_no h c8
  by_cases c9 : Ob.lft o = Ob.defS
  · exact fb_def h c9
  by_cases c10 : Ob.lft o = Ob.thm
  · exact fb_thm h c10
  by_cases c11 : Ob.lft o = Ob.weak
  · exact fb_weak h c11
  by_cases c12 : Ob.lft o = Ob.cut
  · exact fb_cut h c12
  by_cases c13 : Ob.lft o = Ob.inst
  · exact fb_inst h c13
  by_cases c14 : Ob.lft o = Ob.swap
  · exact fb_swap h c14
  by_cases c15 : Ob.lft o = Ob.put
  · exact fb_put h c15
  by_cases c16 : Ob.lft o = Ob.induct
  · exact fb_induct hH fl h c16
  rw [isForm_else (fun q => q.elim c1 c2) c3 (fun q => q.elim c4 (fun q => q.elim c5 c6)) (fun q => q.elim c7 c8) c9 c10 c11 c12 c13 c14 c15 c16] at h
  cases h
theorem pf_b [DecidableEq Ob] (hH : Sp.HOk H) (fl : FlOk H) : ∀ (d : Nat) (o : Ob) (s : Sp.Wk), PfB o s (Sp.pf (H.env []) d o s)
  | 0, o, s => by
    have w := WP_140 o
    show (s.2 : Int) ≤ (s.2 : Int) + WP o + 800
    omega
  | d + 1, o, s => by
    have w := WP_140 o
    show PfB o s (Sp.bd Sp.tick (fun _ => if Sp.isForm (H.env []) o = true then Sp.bd (Sp.pfParts (Sp.pf (H.env []) d) (Sp.partsOf o)) fun cs => Sp.bd (Sp.concl (H.env []) o cs) fun l => Sp.bounded l else Sp.fail) s)
    by_cases t : s.1 = 0
    · rw [bind_err (show Sp.tick s = .error () s by unfold Sp.tick; rw [if_pos t])]
      show (s.2 : Int) ≤ (s.2 : Int) + WP o + 800
      omega
    · rw [bind_ok (show Sp.tick s = .ok () (s.1 - 1, s.2) by unfold Sp.tick; rw [if_neg t])]
      by_cases c : Sp.isForm (H.env []) o = true
      · rw [if_pos c]
        obtain ⟨f1, f2⟩ := form_b hH fl c
        have pp := pp_b (r := Sp.pf (H.env []) d) (fun o s => pf_b hH fl d o s) (Sp.partsOf o) (s.1 - 1, s.2)
        cases e : Sp.pfParts (Sp.pf (H.env []) d) (Sp.partsOf o) (s.1 - 1, s.2) with
        | error x s1 =>
          rw [e] at pp
          have pp : (s1.2 : Int) ≤ (s.2 : Int) + WPL (Sp.partsOf o) + 800 := pp
          rw [bind_err e]
          show (s1.2 : Int) ≤ (s.2 : Int) + WP o + 800
          omega
        | ok cs s1 =>
          rw [e] at pp
          obtain ⟨p1, p2, p3⟩ := pp
          have p3 : (s1.2 : Int) + sgL cs ≤ (s.2 : Int) + WPL (Sp.partsOf o) := p3
          rw [bind_ok e]
          have k := f2 cs p1 p2 s1
          have sl := sgL_low cs
          cases e2 : Sp.concl (H.env []) o cs s1 with
          | error x s2 =>
            rw [e2] at k
            have k : (s2.2 : Int) + WPL (Sp.partsOf o) ≤ (s1.2 : Int) + WP o + 800 + 401 * (cs.length : Int) := k
            rw [bind_err e2]
            show (s2.2 : Int) ≤ (s.2 : Int) + WP o + 800
            omega
          | ok l s2 =>
            rw [e2] at k
            have k : (s2.2 : Int) + 401 + 135 * vQ l + WPL (Sp.partsOf o) ≤ (s1.2 : Int) + WP o + sgL cs := k
            have v := vQ_r l
            rw [bind_ok e2]
            unfold Sp.bounded
            by_cases hb : Sp.bnd l = true
            · rw [if_pos hb]
              unfold Sp.bnd at hb
              rw [Bool.and_eq_true, decide_eq_true_eq, decide_eq_true_eq] at hb
              refine ⟨hb, ?_⟩
              show (s2.2 : Int) + 401 + 135 * vQ l ≤ (s.2 : Int) + WP o
              omega
            · rw [if_neg hb]
              show (s2.2 : Int) ≤ (s.2 : Int) + WP o + 800
              omega
      · rw [if_neg c]
        show (s.2 : Int) ≤ (s.2 : Int) + WP o + 800
        omega
theorem nwd_it3 [DecidableEq Ob] (o : Ob) : nwd false (Ob.item o 3) + 5 ≤ nwd false o ∨ Ob.item o 3 = Ob.nil := by
  cases o with
  | var x => exact Or.inr rfl
  | op a b =>
    cases b with
    | var x => exact Or.inr rfl
    | op x b =>
      cases b with
      | var y => exact Or.inr rfl
      | op y b =>
        cases b with
        | var z => exact Or.inr rfl
        | op z c =>
          have h1 := nwd_pos false a
          have h2 := nwd_pos false x
          have h3 := nwd_pos false y
          have h4 := nwd_pos true c
          have e : nwd false (.op a (.op x (.op y (.op z c)))) = 1 + nwd false a + (nwd false x + (nwd false y + (nwd false z + nwd true c))) := by
            show (if a = Ob.quote ∧ (.op y (.op z c) : Ob) = Ob.nil then 1 + nwd false x else 1 + nwd false a + nwd true (.op x (.op y (.op z c)))) = _
            rw [if_neg (fun q => by cases q.2)]
            rfl
          refine Or.inl ?_
          show nwd false z + 5 ≤ _
          omega
theorem nwdL_drop [DecidableEq Ob] : ∀ (l : List Ob) (k : Nat), nwdL (l.drop k) ≤ nwdL l
  | [], k => by rw [List.drop_nil]; exact Int.le_refl _
  | a :: l, 0 => Int.le_refl _
  | a :: l, k + 1 => by
    have h1 := nwd_pos false a
    have h2 := nwdL_drop l k
    show nwdL (l.drop k) ≤ nwd false a + nwdL l
    omega
theorem cpH_drop [DecidableEq Ob] : ∀ (l : List Ob) (k : Nat), cpH (l.drop k) ≤ cpH l
  | [], k => by rw [List.drop_nil]; exact Int.le_refl _
  | a :: l, 0 => Int.le_refl _
  | a :: l, k + 1 => by
    have h1 := cpL_pos (Ob.toList (Ob.rgt (Ob.rgt a)))
    have h2 := cpH_drop l k
    show cpH (l.drop k) ≤ cpL (Ob.toList (Ob.rgt (Ob.rgt a))) + cpH l
    omega
theorem fitR_of [DecidableEq Ob] {o : Ob} {B : Int} {fuel : Nat} (hH : Sp.HOk H) (fl : FlOk H) (hfu : fuel ≤ 1000) (hw : nwd false o ≤ 1000) (hB : B ≤ 15450 - nwd false o + askM o + cpH (hsA o)) (ha : askM o + cpH (hsA o) + 2 ≤ nwd false o) : FitR H fuel o B := by
  have hs0 : ∀ f : Ob, f.isSym = false → Sp.arOf (H.env []) f = -1 := arOf_sym (fun D hD => ((HOk.wf hH).1 D hD).1)
  refine ⟨fun T hT => ⟨?_, ?_⟩, fun k F hk hF h0 => ?_, fun X M hd hX hM ok => ?_, ?_⟩
  · have q := ev_bound (E := H.env []) 300 (fun x => x) T (fuel, 1000000, 0)
    unfold FitE
    cases e : Sp.ev (H.env []) 300 (fun x => x) T (fuel, 1000000, 0) with
    | ok a s =>
      rw [e] at q
      have q2 : (s.2.2 : Int) ≤ ((0 : Nat) : Int) + ((fuel : Int) - (s.1 : Int)) := q.2
      show B + 3100 + (s.2.2 : Int) ≤ 160000
      omega
    | error a s =>
      rw [e] at q
      have q2 : (s.2.2 : Int) ≤ ((0 : Nat) : Int) + ((fuel : Int) - (s.1 : Int)) := q.2
      show B + 3100 + (s.2.2 : Int) ≤ 160000
      omega
  · have q := rb_rw (enF_of (m := []) hH) 60 [] T false (fuel, 0)
    have c := cm_r T
    unfold Fit
    cases e : Sp.rw (H.env []) 60 [] T false (fuel, 0) with
    | ok a s =>
      rw [e] at q
      have q2 : (s.2 : Int) ≤ ((0 : Nat) : Int) + 117 * ((fuel : Int) - (s.1 : Int)) + (-112 - cm T) := q.2.2
      show B + 3100 + (s.2 : Int) ≤ 160000
      omega
    | error a s =>
      rw [e] at q
      have q2 : (s.2 : Int) ≤ ((0 : Nat) : Int) + 117 * ((fuel : Int) - (s.1 : Int)) + (20 - cm T) := q.2
      show B + 3100 + (s.2 : Int) ≤ 160000
      omega
  · have d1 := nwdL_drop (Ob.toList o) (k + 1)
    have d2 := cpH_drop (Ob.toList o) (k + 1)
    have d3 := nwd_list o
    have d4 := nwd_tl o
    have d5 := cpH_nwd o
    exact fitT_of hH fl (rdT_sz hF) h0 (by omega) hfu (by omega)
  · obtain ⟨nb, ns, nq, _, _⟩ := isName_base hd.2.1
    have hm : M.sz ≤ 120 := by
      split at hM
      · cases e : Ob.rdT (Sp.arC (H.env []) (Ob.item o 1) (Ob.toList (Ob.item o 2)).length) (Ob.item o 4) with
        | none => rw [e] at hM; cases hM
        | some z =>
          rw [e] at hM
          have : z = M := Option.some.inj (Option.some.inj hM)
          rw [← this]; exact rdT_sz e
      · cases hM
    exact fitM_of hH nb nq (rdT_wt (arC_sy ns hs0) hX).1 (rdT_sz hX) ok.2.2.2 hm hfu (by omega)
  · have q := pf_b hH fl 40 (Ob.item o 3) (fuel, 0)
    have top : 140 * nwd false (Ob.item o 3) ≤ 139300 := by
      rcases nwd_it3 o with z | z
      · omega
      · rw [z]
        show 140 * (1 : Int) ≤ 139300
        decide
    have ew : WP (Ob.item o 3) = 140 * nwd false (Ob.item o 3) - 7 * npr (Ob.item o 3) := rfl
    unfold Fit
    cases e : Sp.pf (H.env []) 40 (Ob.item o 3) (fuel, 0) with
    | ok l s =>
      rw [e] at q
      have q2 : (s.2 : Int) + 401 + 135 * vQ l ≤ ((0 : Nat) : Int) + WP (Ob.item o 3) := q.2
      have v := vQ_r l
      show B + (7 * npr (Ob.item o 3) + 4001) + (s.2 : Int) ≤ 160000
      omega
    | error x s =>
      rw [e] at q
      have q2 : (s.2 : Int) ≤ ((0 : Nat) : Int) + WP (Ob.item o 3) + 800 := q
      show B + (7 * npr (Ob.item o 3) + 4001) + (s.2 : Int) ≤ 160000
      omega
end
/-! what stays flat -/
def FlP [DecidableEq Ob] (H : Sp.Hs) (r : Sp.Res) : Prop := r.1.1 = H.1 ∨ r.1.1 = H.1.dropLast ∨ ∃ D : Sp.Dfn, r.1.1 = H.1 ++ [D] ∧ Sp.flat D.name D.body = true
theorem FlP.ok [DecidableEq Ob] {H : Sp.Hs} {r : Sp.Res} (h : FlP H r) (f : FlOk H) : FlOk r.1 := by
  intro D hD
  rcases h with e | e | ⟨D', e, k⟩
  · rw [e] at hD; exact f D hD
  · rw [e] at hD; exact f D (List.dropLast_subset _ hD)
  · rw [e] at hD
    rcases List.mem_append.mp hD with q | q
    · exact f D q
    · rw [List.mem_singleton.mp q]; exact k
theorem FlP.eq [DecidableEq Ob] {H : Sp.Hs} {r : Sp.Res} {a : Sp.Hs} {b : Int × Nat × Bool} (h : r = (a, b)) (e : a.1 = H.1) : FlP H r := Or.inl (by rw [h]; exact e)
theorem Proves_fl [DecidableEq Ob] {E : Sp.Env} {H H' : Sp.Hs} {fuel : Nat} {m : Sp.M (List Sp.Cla)} {r : Sp.Res} (h : Sp.Proves E H H' fuel m r) : r.1 = H ∨ r.1 = H' := by
  unfold Sp.Proves at h
  cases e : m (fuel, 0) with
  | error x s => rw [e] at h; exact Or.inl (by rw [h])
  | ok cl s =>
    rw [e] at h
    obtain ⟨l, s1, h1, h2⟩ := h
    cases l with
    | none => exact Or.inl (by rw [h2])
    | some l =>
      cases l with
      | nil => exact Or.inr (by rw [h2])
      | cons a l => exact Or.inl (by rw [h2])
theorem ranM_fl [DecidableEq Ob] {α : Type} {H : Sp.Hs} {fuel : Nat} {f : α → Sp.Hs} {m : Sp.M α} (hf : ∀ a, (f a).1 = H.1) : FlP H (Sp.ranM H fuel f m) := by
  unfold Sp.ranM
  cases e : m (fuel, 0) with
  | error x s => exact Or.inl rfl
  | ok a s => exact Or.inl (hf a)
theorem RanT_fl [DecidableEq Ob] {k : Nat} {H : Sp.Hs} {fuel : Nat} {o : Ob} {r : Sp.Res} (h : Sp.RanT k H fuel o r) : FlP H r := by
  unfold Sp.RanT at h
  split at h
  · split at h
    · exact Or.inl (by rw [h]; rfl)
    · rcases Proves_fl h with e | e
      · exact Or.inl (by rw [e])
      · rw [FlP, e]
        refine Or.inl ?_
        split <;> rfl
  · exact Or.inl (by rw [h]; rfl)
theorem RanD_fl [DecidableEq Ob] {H : Sp.Hs} {fuel : Nat} {o : Ob} {r : Sp.Res} (h : Sp.RanD H fuel o r) : FlP H r := by
  unfold Sp.RanD at h
  split at h
  · split at h
    · next m e2 =>
      split at h
      · next c =>
        split at h
        · exact Or.inl (by rw [h]; rfl)
        · cases m with
          | none =>
            have h : r = _ := h
            exact Or.inr (Or.inr ⟨_, (by rw [h]; rfl), c.2.2.2⟩)
          | some M =>
            rcases Proves_fl h with e | e
            · exact Or.inl (by rw [e])
            · exact Or.inr (Or.inr ⟨_, (by rw [e]; rfl), c.2.2.2⟩)
      · exact Or.inl (by rw [h]; rfl)
    · exact Or.inl (by rw [h]; rfl)
  · exact Or.inl (by rw [h]; rfl)
def FlQ [DecidableEq Ob] (H : Sp.Hs) (P : Sp.Res → Prop) : Prop := ∀ r, P r → FlP H r
theorem FlQ.eq [DecidableEq Ob] {H : Sp.Hs} {a : Sp.Res} (h : FlP H a) : FlQ H (fun r => r = a) := fun r e => by rw [show r = a from e]; exact h
theorem FlQ.ite [DecidableEq Ob] {H : Sp.Hs} {c : Prop} [Decidable c] {A B : Sp.Res → Prop} (hA : FlQ H A) (hB : FlQ H B) : FlQ H (fun r => if c then A r else B r) := by
  intro r h
  by_cases q : c
  · rw [if_pos q] at h; exact hA r h
  · rw [if_neg q] at h; exact hB r h
theorem Ran_fl [DecidableEq Ob] {H : Sp.Hs} {fuel : Nat} {o : Ob} : FlQ H (Sp.Ran H fuel o) := by
  have nt : FlQ H (fun r => r = Sp.nothing H) := FlQ.eq (Or.inl rfl)
  have ev : ∀ T : Ob, FlQ H (fun r => match Sp.ev (H.env []) 300 (fun x => x) T (fuel, 1000000, 0) with | .ok _ s => r = (H, (fuel : Int) - (s.1 : Int), 0, false) | .error _ s => r = (H, (fuel : Int) - (s.1 : Int), 0, false)) := fun T => by
    cases Sp.ev (H.env []) 300 (fun x => x) T (fuel, 1000000, 0) with
    | ok a s => exact FlQ.eq (Or.inl rfl)
    | error a s => exact FlQ.eq (Or.inl rfl)
  unfold Sp.Ran
  refine FlQ.ite ?_ (FlQ.ite ?_ (FlQ.ite ?_ (FlQ.ite ?_ (FlQ.ite ?_ (FlQ.ite (FlQ.ite (FlQ.eq (Or.inl rfl)) nt) (FlQ.ite (FlQ.ite (FlQ.eq ?_) nt) nt))))))
  · intro r h
    cases e : (if Ob.len o = 2 then Sp.rdAt (H.env []) o 1 else none) with
    | none => rw [e] at h; exact nt r h
    | some T => rw [e] at h; exact FlQ.ite nt (ev T) r h
  · intro r h
    cases e : (if Ob.len o = 2 then Sp.rdAt (H.env []) o 1 else none) with
    | none => rw [e] at h; exact nt r h
    | some T =>
      rw [e] at h
      have h : r = _ := h
      rw [h]
      exact ranM_fl (fun _ => rfl)
  · exact fun r h => RanT_fl h
  · exact fun r h => RanD_fl h
  · intro r h
    cases e : (if Ob.len o = 4 ∧ Ob.isName (Ob.item o 1) then Sp.rdAt (H.env []) o 2 else none) with
    | none => rw [e] at h; exact nt r h
    | some F =>
      rw [e] at h
      refine FlQ.ite nt (FlQ.eq ?_) r h
      refine ranM_fl (fun l => ?_)
      split <;> rfl
  · by_cases q : H.2.2.getLast? = some 1
    · refine Or.inr (Or.inl ?_)
      show (if H.2.2.getLast? = some 1 then H.1.dropLast else H.1) = _
      rw [if_pos q]
    · refine Or.inl ?_
      show (if H.2.2.getLast? = some 1 then H.1.dropLast else H.1) = _
      rw [if_neg q]
theorem RanT0_fl [DecidableEq Ob] {H : Sp.Hs} {fuel : Nat} {t : List Int} {r : Sp.Res} (h : Sp.RanT0 H fuel t r) (f : FlOk H) : FlOk r.1 := by
  unfold Sp.RanT0 at h
  cases e : Sp.read t with
  | none =>
    rw [e] at h
    have h : r = Sp.nothing H := h
    rw [h]; exact f
  | some o => rw [e] at h; exact (Ran_fl r h).ok f
