-- deps: 464
/-! the reference, partial: calls of constants, plain calls -/
theorem Nd.call [DecidableEq Ob] {u : iST} {E : Sp.Env} {k : Int} (h : Nd u E k) (hc : (ob u k).isCall = true) : ∃ f l, ob u k = .pr f (Ob.ofList l) ∧ f ≠ Ob.quote ∧ f.isSym = true ∧ Sp.arOf E f = (l.length : Int) ∧ ∀ x, x ∈ l → Ob.wt (Sp.arOf E) x ∧ Tm u x := by
  obtain ⟨k0, k1, tm, wo⟩ := h
  obtain ⟨f, l, e, h1, h2, h3, h4⟩ := Ob.wt_call wo hc
  rw [e] at tm
  exact ⟨f, l, e, h1, h2, h3, fun x hx => ⟨h4 x hx, Tm_row l x (Tm_call tm h1).2.1 hx⟩⟩
theorem p_areConstants [DecidableEq Ob] {a : Int} {Q : Int → iST → Prop} {u : iST} {E : Sp.Env} (hT : TI u) (hU : TU u) (hN : Nd u E a) (hc : (ob u a).isCall = true) (h : ∀ r, bq r ((Ob.toList (Ob.rgt (ob u a))).all Ob.isConst) → Q r u) : pw_areConstants a Q u := by
  obtain ⟨f, l, e, h1, h2, h3, h4⟩ := hN.call hc
  have n0 := hN.1
  have n1 := hN.2.1
  obtain ⟨_, _, q0, q1, _, _, ep⟩ := ob_lft hT n0 n1 (by rw [e]; rfl)
  have er : ob u (u.2.1 1 a) = Ob.ofList l := by rw [e] at ep; exact (Ob.pr.inj ep).2.symm
  have el : Ob.toList (Ob.rgt (ob u a)) = l := by rw [e]; exact Ob.toList_ofList l
  rw [el] at h
  unfold pw_areConstants
  intro _ _ x ex _
  subst ex
  refine pw_areConstants_7_i (fun x v => v = u ∧ 0 ≤ x ∧ x < u.1 8 ∧ ∃ m, ob u x = Ob.ofList m ∧ l.all Ob.isConst = m.all Ob.isConst ∧ ∀ y, y ∈ m → Tm u y) ?_ ⟨rfl, q0, by omega, l, er, rfl, fun y hy => (h4 y hy).2⟩
  intro x v hI
  obtain ⟨e1, x0, x1, m, em, ea, ht⟩ := hI
  rw [e1]
  have ez := kat hT hU 0 (by decide) (by decide) rfl x0 x1
  unfold pw_areConstants_7b
  refine ⟨fun hz _ => h 1 (bq1 ?_), fun hz => ?_⟩
  · have := ez.mp hz
    rw [em] at this
    cases m with
    | nil => rw [ea]; rfl
    | cons y m => cases this
  · cases m with
    | nil => exact absurd (ez.mpr em) hz
    | cons y m =>
      obtain ⟨l0, l1, r0, r1, _, _, ep2⟩ := ob_lft hT x0 x1 (by rw [em]; rfl)
      rw [em] at ep2
      have e2 := (Ob.pr.inj ep2).1
      have e3 := (Ob.pr.inj ep2).2
      intro _ _ z ez2 _
      subst ez2
      refine p_isConstant hT hU l0 (by omega) (by rw [← e2]; exact ht y List.mem_cons_self) (fun r hr => ?_)
      rw [← e2] at hr
      refine ⟨fun hd => ?_, fun hd _ => h 0 (bq0 ?_)⟩
      · intro _ _ w ew _
        subst ew
        refine ⟨rfl, r0, by omega, m, e3.symm, ?_, fun y hy => ht y (List.mem_cons_of_mem _ hy)⟩
        rw [ea, List.all_cons, hr.t hd, Bool.true_and]
      · rw [ea, List.all_cons, hr.f (Decidable.not_not.mp hd), Bool.false_and]
theorem p_constantValue [DecidableEq Ob] {a f : Int} {Q : Int → iST → Prop} {u : iST} {E : Sp.Env} (hT : TI u) (hU : TU u) (hN : Nd u E a) (hc : (ob u a).isCall = true) (f0 : 4 ≤ f) (f1 : f ≤ 16) (ef : (ob u a).lft = ob u f) (hall : (Ob.toList (Ob.rgt (ob u a))).all Ob.isConst = true)
    (hq : ∀ k v, GZ f7E u v → v.1 60 = u.1 60 → (Ob.base (ob u a).lft (Ob.valOf (Ob.item (ob u a) 1)) (Ob.valOf (Ob.item (ob u a) 2)) = none ∧ k = -1) ∨ (0 ≤ k ∧ k < v.1 8 ∧ Ob.base (ob u a).lft (Ob.valOf (Ob.item (ob u a) 1)) (Ob.valOf (Ob.item (ob u a) 2)) = some (ob v k)) → Q k v) : pw_constantValue a f Q u := by
  obtain ⟨F, l, e, h1, h2, h3, h4⟩ := hN.call hc
  have h8 := hT.1
  have n0 := hN.1
  have n1 := hN.2.1
  obtain ⟨_, _, q0, q1, _, _, ep⟩ := ob_lft hT n0 n1 (by rw [e]; rfl)
  have er : ob u (u.2.1 1 a) = Ob.ofList l := by rw [e] at ep; exact (Ob.pr.inj ep).2.symm
  have el : Ob.toList (Ob.rgt (ob u a)) = l := by rw [e]; exact Ob.toList_ofList l
  rw [el] at hall
  have eF : ob u f = F := by rw [← ef, e]; rfl
  have hlen := base_ar hT hU E (f := f) (by omega) f1
  rw [eF, h3] at hlen
  have it1 : ∀ k, Ob.item (ob u a) (k + 1) = l.getD k Ob.nil := fun k => by rw [e]; exact Ob.item_call F l k
  unfold pw_constantValue
  intro v ev _ _ x ex _
  have gv : GZ f7E u v := by subst ev; exact GZ_eq (GZ.rf hT hU) (fun k hk => ⟨if_neg (by omega), rfl⟩) rfl (Fx_I (by decide))
  have v87 : v.1 87 = 0 := by rw [ev]; rfl
  have v60 : v.1 60 = u.1 60 := by rw [ev]; rfl
  have ex2 : x = u.2.1 1 a := by rw [ex, ev]; rfl
  clear ev ex
  refine pw_constantValue_12_i (fun g x v => g = f ∧ GZ f7E u v ∧ v.1 60 = u.1 60 ∧ 0 ≤ x ∧ x < u.1 8 ∧ ∃ j : Nat, v.1 87 = (j : Int) ∧ ob u x = Ob.ofList (l.drop j) ∧ j ≤ l.length ∧ ∀ i : Nat, i < j → 0 ≤ v.2.1 86 (i : Int) ∧ v.2.1 86 (i : Int) < v.1 8 ∧ ob v (v.2.1 86 (i : Int)) = Ob.valOf (l.getD i Ob.nil)) ?_ ⟨rfl, gv, v60, by omega, by omega, 0, v87, by rw [ex2]; exact er, by omega, fun i hi => by omega⟩
  intro g x v hI
  obtain ⟨e1, gv, v60, x0, x1, j, j1, j2, j3, j4⟩ := hI
  rw [e1]
  have hl := gv.le
  have ez := kat hT hU 0 (by decide) (by decide) rfl x0 x1
  unfold pw_constantValue_12b
  refine ⟨fun hz => ?_, fun hz => ?_⟩
  · have hd := ez.mp hz
    rw [j2] at hd
    have hj : j = l.length := by
      rcases Nat.lt_or_ge j l.length with c | c
      · rw [List.drop_eq_getElem_cons c] at hd; cases hd
      · omega
    have efv : ob v f = F := (gv.ob hT (by omega) (by omega)).trans eF
    have p1 : 1 ≤ j := by
      rw [if_neg (by omega)] at hlen
      split at hlen <;> omega
    have a0 := j4 0 (by omega)
    refine p_basic gv.1 gv.2.1 f0 f1 a0.1 a0.2.1 (fun hf => ?_) (fun k w hB => ?_)
    · have : 2 ≤ j := by rw [if_neg (by omega), if_pos hf] at hlen; omega
      have a1 := j4 1 (by omega)
      exact ⟨a1.1, a1.2.1⟩
    · have hB2 := hB (Ob.valOf (Ob.item (ob u a) 2)) (fun hf => by
        have : 2 ≤ j := by rw [if_neg (by omega), if_pos hf] at hlen; omega
        rw [it1 1]
        exact (j4 1 (by omega)).2.2.symm)
      have ea : ob v (v.2.1 86 0) = Ob.valOf (Ob.item (ob u a) 1) := by rw [it1 0]; exact a0.2.2
      rw [efv, ea] at hB2
      obtain ⟨hR, hres⟩ := hB2
      have hgz : GZ f7E v w := hR.gz.mono (fun k hk => by
        unfold f7E at hk
        unfold fT
        rw [Bool.or_eq_false_iff, Bool.or_eq_false_iff] at hk
        exact hk.1.1)
      have eL : (ob u a).lft = F := by rw [e]; rfl
      refine hq k w (gv.tr hgz) ((hR.2.2.2.2 60 (by decide)).1.trans v60) ?_
      rw [eL]
      exact hres
  · have hj : j < l.length := by
      rcases Nat.lt_or_ge j l.length with c | c
      · exact c
      · rw [List.drop_eq_nil_of_le c] at j2; exact absurd (ez.mpr j2) hz
    rw [List.drop_eq_getElem_cons hj] at j2
    obtain ⟨l0, l1, r0, r1, _, _, ep2⟩ := ob_lft hT x0 x1 (by rw [j2]; rfl)
    rw [j2] at ep2
    have e2 := (Ob.pr.inj ep2).1
    have e3 := (Ob.pr.inj ep2).2
    have x0v := gv.2.2.1.2.1 x x0 x1
    intro y ey _ _ _ z ez2 _
    rw [x0v.1] at ez2
    have hm : l[j] ∈ l := List.getElem_mem hj
    have eo : ob v (u.2.1 0 x) = l[j] := by rw [gv.ob hT l0 (by omega)]; exact e2.symm
    subst ey ez2
    refine p_valueOf gv.1 gv.2.1 l0 (by omega) (by rw [eo]; exact (h4 _ hm).2.mono gv hT) (by rw [eo]; exact List.all_eq_true.mp hall _ hm) (fun r r0' r1' er2 => ?_)
    intro _ _ w ew y2 ey2 _ _ w2 ew2 _ _ y3 ey3 _
    have gw : GZ f7E v w2 := by
      rw [ew2, ew]
      exact GZ_eq (GZ.rf gv.1 gv.2.1) (fun k hk => ⟨if_neg (by omega), if_neg (by omega)⟩) rfl ((Fx_A (by decide)).tr (Fx_I (by decide)))
    have w87 : w2.1 87 = ((j + 1 : Nat) : Int) := by rw [ew2, ey2, ew]; show v.1 87 + 1 = _; omega
    have w86 : ∀ i, w2.2.1 86 i = if i = (j : Int) then r else v.2.1 86 i := by
      intro i
      rw [ew2, ew]
      show (if i = v.1 87 then r else v.2.1 86 i) = _
      rw [j1]
    have w60 : w2.1 60 = u.1 60 := by rw [ew2, ew]; exact v60
    have wx : w2.2.1 1 x = u.2.1 1 x := by rw [ew2, ew]; exact x0v.2.1
    have w8 : w2.1 8 = v.1 8 := by rw [ew2, ew]; rfl
    have ey3' : y3 = u.2.1 1 x := ey3.trans wx
    clear ew ew2 ey2 ey3
    rw [ey3']
    refine ⟨rfl, gv.tr gw, w60, r0, by omega, j + 1, w87, e3.symm, by omega, fun i hi => ?_⟩
    rw [w86]
    by_cases c : i = j
    · rw [if_pos (by omega), c]
      refine ⟨r0', by omega, ?_⟩
      rw [gw.ob gv.1 r0' r1', er2, eo, List.getD_eq_getElem?_getD, List.getElem?_eq_getElem hj]
      rfl
    · rw [if_neg (by omega)]
      obtain ⟨p1, p2, p3⟩ := j4 i (by omega)
      exact ⟨p1, by omega, by rw [gw.ob gv.1 p1 p2]; exact p3⟩
