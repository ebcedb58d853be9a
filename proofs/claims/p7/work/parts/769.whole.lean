-- deps: 768
/-! the class: a PROOF is as told -/
def f8Un (k : Nat) : Bool := decide (k = 29) || decide (32 ≤ k ∧ k ≤ 34) || decide (k = 39)
def f8Ur (k : Nat) : Bool := decide (27 ≤ k ∧ k ≤ 32) || decide (35 ≤ k ∧ k ≤ 43)
theorem f8B_U [DecidableEq Ob] : ∀ k, f8Un k = false → f8B k = false := fun k h => by
  unfold f8Un at h
  unfold f8B
  simp only [Bool.or_eq_false_iff, decide_eq_false_iff_not] at h ⊢
  omega
theorem f8W_U [DecidableEq Ob] : ∀ k, f8Ur k = false → f8W k = false := fun k h => by
  unfold f8Ur at h
  unfold f8W
  simp only [Bool.or_eq_false_iff, decide_eq_false_iff_not] at h ⊢
  omega
theorem f8Y_U [DecidableEq Ob] : ∀ k, f8Un k = false → f8Yn k = false := fun k h => by
  unfold f8Un at h
  unfold f8Yn
  simp only [Bool.or_eq_false_iff, decide_eq_false_iff_not] at h ⊢
  omega
theorem f8p_U [DecidableEq Ob] : ∀ k, f8Ur k = false → f8p k = false := fun k h => by
  unfold f8Ur at h
  unfold f8p
  simp only [Bool.or_eq_false_iff, decide_eq_false_iff_not] at h ⊢
  omega
theorem f8h_U [DecidableEq Ob] : ∀ k, f8Un k = false → f8h k = false := fun k h => by
  unfold f8Un at h
  unfold f8h
  simp only [Bool.or_eq_false_iff, decide_eq_false_iff_not] at h ⊢
  omega
theorem f8g_U [DecidableEq Ob] : ∀ k, f8Ur k = false → f8g k = false := fun k h => by
  unfold f8Ur at h
  unfold f8g
  simp only [Bool.or_eq_false_iff, decide_eq_false_iff_not] at h ⊢
  omega
theorem f8Ur_lo [DecidableEq Ob] : ∀ k, k ≤ 4 → f8Ur k = false := fun k h => by
  unfold f8Ur
  simp only [Bool.or_eq_false_iff, decide_eq_false_iff_not]
  omega
theorem cpL_npr [DecidableEq Ob] : ∀ o : Ob, cpL (Ob.toList o) ≤ npr o
  | .op p l => by
    have h1 := cpL_npr l
    have h2 := (csM_npr false (Ob.item p 1)).1
    have h3 := npr_item 1 p
    show Ob.csM false (Ob.item p 1) + cpL (Ob.toList l) ≤ 1 + npr p + npr l
    omega
  | .var _ => Int.le_refl _
theorem npr_in [DecidableEq Ob] : ∀ (o p : Ob), p ∈ Ob.toList o → npr p ≤ npr o
  | .op q l, p, h => by
    have h0 := npr_pos l
    have h1 := npr_pos q
    show npr p ≤ 1 + npr q + npr l
    rcases List.mem_cons.mp h with e | e
    · rw [e]; omega
    · have := npr_in l p e; omega
  | .var _, p, h => by cases h
theorem pc_isWhole [DecidableEq Ob] {a : Int} {Q : Int → iST → Prop} {u : iST} {E : Sp.Env} (hR : RdE u E) (hTo : TOc u E) (hDn : ∀ D, D ∈ E.defs → D.name.isName = true) (hDw : Sp.DWf E) (hDz : ∀ D, D ∈ E.defs → D.body.sz ≤ 120) (ha : VN u a) (hz : npr (oc u a) ≤ 100000) (hroom : u.1 29 + npr (oc u a) + 1 ≤ 160000) (hl2 : 2 ≤ Ob.len (oc u a)) (hpb : PrB E (Ob.toList (Ob.rgt (Ob.rgt (oc u a)))))
    (hq : ∀ r v, CG f8Un f8Ur u v → RdE v E → v.1 29 ≤ u.1 29 + npr (oc u a) + 1 → bq r (WhW E (oc u a)) → Q r v) : pv_3_isWholeFormed a Q u := by
  have hT := hR.1
  have np := npr_pos (oc u a)
  have ni1 := npr_item 1 (oc u a)
  unfold pv_3_isWholeFormed
  refine pc_left hT ha (fun f vf ef => ?_)
  have stay : WhW E (oc u a) = true → Q 1 u := fun h => hq 1 u (CG.rf hT) hR (by omega) (bq1 h)
  have k30 := katC hT 30 (o := Ob.value) (by decide) (by decide) rfl vf.1 vf.2
  rw [ef] at k30
  have k31 := katC hT 31 (o := Ob.first) (by decide) (by decide) rfl vf.1 vf.2
  rw [ef] at k31
  have k32 := katC hT 32 (o := Ob.second) (by decide) (by decide) rfl vf.1 vf.2
  rw [ef] at k32
  have k33 := katC hT 33 (o := Ob.pair) (by decide) (by decide) rfl vf.1 vf.2
  rw [ef] at k33
  have k34 := katC hT 34 (o := Ob.yes) (by decide) (by decide) rfl vf.1 vf.2
  rw [ef] at k34
  have k35 := katC hT 35 (o := Ob.no) (by decide) (by decide) rfl vf.1 vf.2
  rw [ef] at k35
  have k36 := katC hT 36 (o := Ob.defS) (by decide) (by decide) rfl vf.1 vf.2
  rw [ef] at k36
  have k37 := katC hT 37 (o := Ob.thm) (by decide) (by decide) rfl vf.1 vf.2
  rw [ef] at k37
  have k38 := katC hT 38 (o := Ob.weak) (by decide) (by decide) rfl vf.1 vf.2
  rw [ef] at k38
  have k39 := katC hT 39 (o := Ob.cut) (by decide) (by decide) rfl vf.1 vf.2
  rw [ef] at k39
  have k40 := katC hT 40 (o := Ob.inst) (by decide) (by decide) rfl vf.1 vf.2
  rw [ef] at k40
  have k41 := katC hT 41 (o := Ob.swap) (by decide) (by decide) rfl vf.1 vf.2
  rw [ef] at k41
  have k42 := katC hT 42 (o := Ob.put) (by decide) (by decide) rfl vf.1 vf.2
  rw [ef] at k42
  have k43 := katC hT 43 (o := Ob.induct) (by decide) (by decide) rfl vf.1 vf.2
  rw [ef] at k43
  refine ⟨fun q => ?_, fun n30 => ?_⟩
  · have h := k30.mp q
    rw [WhW_value h] at hq
    refine pc_valueAt hR hDn ha hz (by omega) (fun t v gv hv v29 hor => ?_)
    have gU : CG f8Un f8Ur u v := gv.mono f8B_U f8W_U
    rcases hor with ⟨q1, q2⟩ | ⟨q1, q2⟩
    · exact ⟨fun _ _ => hq 0 v gU hv (by omega) (bq0 (congrArg (fun y : Option Ob => (match y with | some _ => true | none => false)) q2)), fun q => absurd q1 q⟩
    · exact ⟨fun q => by have := q1.1; omega, fun _ _ => hq 1 v gU hv (by omega) (bq1 (congrArg (fun y : Option Ob => (match y with | some _ => true | none => false)) q2))⟩
  refine ⟨fun q => ?_, fun n31 => ?_⟩
  · have h := k31.mp q
    exact fun _ => stay (WhW_first h)
  refine ⟨fun q => ?_, fun n32 => ?_⟩
  · have h := k32.mp q
    exact fun _ => stay (WhW_second h)
  refine ⟨fun q => ?_, fun n33 => ?_⟩
  · have h := k33.mp q
    exact fun _ => stay (WhW_pair h)
  refine ⟨fun q => ?_, fun n34 => ?_⟩
  · have h := k34.mp q
    exact fun _ => stay (WhW_yes h)
  refine ⟨fun q => ?_, fun n35 => ?_⟩
  · have h := k35.mp q
    exact fun _ => stay (WhW_no h)
  refine ⟨fun q => ?_, fun n36 => ?_⟩
  · have h := k36.mp q
    rw [WhW_defS h] at hq
    refine pc_item hT ha (by decide) (fun t vt et => ?_)
    have et : oc u t = Ob.item (oc u a) 1 := et
    refine pc_functionOf hT hR.2.1 vt (fun hno => ⟨fun _ _ => ?_, fun q => absurd rfl q⟩) (fun d d0 d1 _ hd => ⟨fun q => by omega, fun _ _ => ?_⟩)
    · rw [et] at hno
      exact hq 0 u (CG.rf hT) hR (by omega) (bq0 (by rw [hno]; rfl))
    · rw [et] at hd
      exact hq 1 u (CG.rf hT) hR (by omega) (bq1 (by rw [hd]; rfl))
  refine ⟨fun q => ?_, fun n37 => ?_⟩
  · have h := k37.mp q
    rw [WhW_thm h] at hq
    refine pc_item hT ha (by decide) (fun t vt et => ?_)
    have et : oc u t = Ob.item (oc u a) 1 := et
    refine pc_theoremOf hT hTo vt (fun hno => ⟨fun _ _ => ?_, fun q => absurd rfl q⟩) (fun j k _ _ _ hth => ⟨fun q => by omega, fun _ _ => ?_⟩)
    · rw [et] at hno
      exact hq 0 u (CG.rf hT) hR (by omega) (bq0 (by rw [hno]; rfl))
    · rw [et] at hth
      exact hq 1 u (CG.rf hT) hR (by omega) (bq1 (by rw [hth]; rfl))
  refine ⟨fun q => ?_, fun n38 => ?_⟩
  · have h := k38.mp q
    rw [WhW_weak h] at hq
    refine pc_item hT ha (by decide) (fun t vt et => ?_)
    have et : oc u t = Ob.item (oc u a) 1 := et
    refine pc_isListOfTerms hR vt (by rw [et]; omega) (by rw [et]; omega) (fun r v gv hv v29 hr => ?_)
    rw [et] at v29 hr
    intro _
    exact hq r v (gv.mono f8B_U f8W_U) hv (by omega) hr
  refine ⟨fun q => ?_, fun n39 => ?_⟩
  · have h := k39.mp q
    exact fun _ => stay (WhW_cut h)
  refine ⟨fun q => ?_, fun n40 => ?_⟩
  · have h := k40.mp q
    rw [WhW_inst h] at hq
    refine pc_right hT ha (fun t1 vt1 et1 => ?_)
    refine pc_right hT vt1 (fun t2 vt2 et2 => ?_)
    rw [et1] at et2
    have nr1 := npr_lft (oc u a)
    have nr2 := npr_lft (Ob.rgt (oc u a))
    have nl1 := npr_pos (Ob.lft (oc u a))
    have nl2 := npr_pos (Ob.lft (Ob.rgt (oc u a)))
    have cp := cpL_npr (Ob.rgt (Ob.rgt (oc u a)))
    refine pc_bindPairs hT hR.2.1 hR.2.2.1 (arOf6 hR.2.1) hR.2.2.2.2 vt2 (by rw [et2]; exact len_rr hl2) (by rw [et2]; exact hpb) (fun p hp => ?_) hR.2.2.2.1 (by rw [et2]; omega) (fun v gv v32 v29 hno => ?_) (fun v ps gv v32 v29 _ _ hsm _ => ?_)
    · rw [et2] at hp
      have h1 := npr_in _ _ hp
      have h2 := npr_item 1 p
      have h3 : (Ob.item p 1).sz ≤ npr (Ob.item p 1) + 1 := (csM_npr false (Ob.item p 1)).2
      omega
    · rw [et2] at v29 hno
      intro _
      have gU : CG f8Un f8Ur u v := gv.mono f8Y_U f8p_U
      exact hq 0 v gU (hR.up gU (by decide) (by decide) f8Ur_lo v32) (by omega) (bq0 (by rw [hno]; rfl))
    · rw [et2] at v29 hsm
      intro _
      have gU : CG f8Un f8Ur u v := gv.mono f8Y_U f8p_U
      exact hq 1 v gU (hR.up gU (by decide) (by decide) f8Ur_lo v32) (by omega) (bq1 (by rw [hsm]; rfl))
  refine ⟨fun q => ?_, fun n41 => ?_⟩
  · have h := k41.mp q
    exact fun _ => stay (WhW_swap h)
  refine ⟨fun q => ?_, fun n42 => ?_⟩
  · have h := k42.mp q
    exact fun _ => stay (WhW_put h)
  refine ⟨fun q => ?_, fun n43 => ?_⟩
  · have h := k43.mp q
    rw [WhW_induct h] at hq
    refine pc_isInductionF hR hDw hDz ha (fun r v gv vc hr => ?_)
    intro _
    have gU : CG f8Un f8Ur u v := gv.mono f8h_U f8g_U
    exact hq r v gU (hR.up gU (by decide) (by decide) f8Ur_lo (by rw [gv.2.2.1 32 (by decide)]; exact hR.2.2.2.1)) (by rw [gv.2.2.1 29 (by decide)]; omega) hr
  intro _
  refine stay ?_
  unfold WhW
  rw [if_neg (fun q => n30 (k30.mpr q)), if_neg (fun q => n36 (k36.mpr q)), if_neg (fun q => n37 (k37.mpr q)), if_neg (fun q => n38 (k38.mpr q)), if_neg (fun q => n40 (k40.mpr q)), if_neg (fun q => n43 (k43.mpr q))]
theorem FrW_len [DecidableEq Ob] {E : Sp.Env} {o : Ob} {f : Int} (h : FrW E o f = true) : 2 ≤ Ob.len o := by
  unfold FrW at h
  rw [Bool.and_eq_true, Bool.and_eq_true, Bool.and_eq_true, decide_eq_true_eq, decide_eq_true_eq] at h
  have : ∀ i : Nat, i < 16 → 2 ≤ yT_LENGTHS.getD i 0 := by decide
  have := this (f - 28).toNat (by omega)
  omega
/-- whether a PROOF is as told -/
theorem pc_isForm [DecidableEq Ob] {a : Int} {A B : iST → Prop} {u : iST} {E : Sp.Env} (hR : RdE u E) (hTo : TOc u E) (hDn : ∀ D, D ∈ E.defs → D.name.isName = true) (hDw : Sp.DWf E) (hDz : ∀ D, D ∈ E.defs → D.body.sz ≤ 120) (ha : VN u a) (hz : npr (oc u a) ≤ 100000) (hroom : u.1 29 + (2 * npr (oc u a) + 1) ≤ 160000) (hpb : PrB E (Ob.toList (Ob.rgt (Ob.rgt (oc u a)))))
    (hA : ∀ v, CG f8Un f8Ur u v → RdE v E → v.1 29 ≤ u.1 29 + (2 * npr (oc u a) + 1) → Sp.isForm E (oc u a) = false → A v) (hB : ∀ v, CG f8Un f8Ur u v → RdE v E → v.1 29 ≤ u.1 29 + (2 * npr (oc u a) + 1) → Sp.isForm E (oc u a) = true → B v) : pv_3_isFormed a (fun v3 u => br (v3 = 0) (A u) (pv_3_isWholeFormed a (fun v4 u => br (v4 ≠ 0) (B u) (A u)) u)) u := by
  have np := npr_pos (oc u a)
  refine pc_isFormed hR ha hz (by omega) (fun f r v vf ef gv hv v29 hr => ?_)
  have fe : Sp.isForm E (oc u a) = (FrW E (oc u a) f && WhW E (oc u a)) := form_eq (fun c s h0 h4 hs => by
    have := katC hR.1 c h0 h4 hs vf.1 vf.2
    rw [ef] at this
    exact this)
  have gU : CG f8Un f8Ur u v := gv.mono f8B_U f8W_U
  refine ⟨fun z => hA v gU hv (by omega) (by rw [fe, hr.f z]; rfl), fun z => ?_⟩
  have ht := hr.t z
  rw [ht, Bool.true_and] at fe
  have eo : oc v a = oc u a := gv.oc hR.1 ha.1 ha.2
  refine pc_isWhole hv (hTo.mono hR.1 gU (gU.2.2.1 1 (by decide)) (fun k h1 h2 => gU.2.2.2 k (by unfold f8Ur; simp only [Bool.or_eq_false_iff, decide_eq_false_iff_not]; omega)) (gU.2.2.2 50 (by decide))) hDn hDw hDz (ha.up gv) (by rw [eo]; exact hz) (by rw [eo]; omega) (by rw [eo]; exact FrW_len ht) (by rw [eo]; exact hpb) (fun r2 w gw hw w29 h2 => ?_)
  rw [eo] at w29 h2
  refine ⟨fun q => hB w (gU.tr gw) hw (by omega) (by rw [fe]; exact h2.t q), fun q => hA w (gU.tr gw) hw (by omega) (by rw [fe]; exact h2.f (Decidable.not_not.mp q))⟩
