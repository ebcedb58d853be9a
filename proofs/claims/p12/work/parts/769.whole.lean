-- deps: 768
/-! the class: a PROOF is as told -/
def f8Un (k : Nat) : Bool := decide (k = 29) || decide (32 ≤ k ∧ k ≤ 34) || decide (k = 39)
def f8Ur (k : Nat) : Bool := decide (27 ≤ k ∧ k ≤ 32) || decide (35 ≤ k ∧ k ≤ 43)
theorem f8B_U [DecidableEq Ob] : ∀ k, f8Un k = false → f8B k = false := fun k h => by
  unfold f8Un at h
  unfold f8B
  simp only [Bool.or_eq_false_iff, decide_eq_false_iff_not] at h ⊢
  omega
theorem f8W_U [DecidableEq Ob] : ∀ k, f8Ur k = false → f8W k = false := fun k h => by
  unfold f8Ur at h
  unfold f8W
  simp only [Bool.or_eq_false_iff, decide_eq_false_iff_not] at h ⊢
  omega
theorem f8Y_U [DecidableEq Ob] : ∀ k, f8Un k = false → f8Yn k = false := fun k h => by
  unfold f8Un at h
  unfold f8Yn
  simp only [Bool.or_eq_false_iff, decide_eq_false_iff_not] at h ⊢
  omega
theorem f8p_U [DecidableEq Ob] : ∀ k, f8Ur k = false → f8p k = false := fun k h => by
  unfold f8Ur at h
  unfold f8p
  simp only [Bool.or_eq_false_iff, decide_eq_false_iff_not] at h ⊢
  omega
theorem f8h_U [DecidableEq Ob] : ∀ k, f8Un k = false → f8h k = false := fun k h => by
  unfold f8Un at h
  unfold f8h
  simp only [Bool.or_eq_false_iff, decide_eq_false_iff_not] at h ⊢
  omega
theorem f8g_U [DecidableEq Ob] : ∀ k, f8Ur k = false → f8g k = false := fun k h => by
  unfold f8Ur at h
  unfold f8g
  simp only [Bool.or_eq_false_iff, decide_eq_false_iff_not] at h ⊢
  omega
theorem f8Ur_lo [DecidableEq Ob] : ∀ k, k ≤ 4 → f8Ur k = false := fun k h => by
  unfold f8Ur
  simp only [Bool.or_eq_false_iff, decide_eq_false_iff_not]
  omega
theorem cpL_npr [DecidableEq Ob] : ∀ o : Ob, cpL (Ob.toList o) ≤ npr o
  | .op p l => by
    have h1 := cpL_npr l
    have h2 := (csM_npr false (Ob.item p 1)).1
    have h3 := npr_item 1 p
    show Ob.csM false (Ob.item p 1) + cpL (Ob.toList l) ≤ 1 + npr p + npr l
    omega
  | .var _ => Int.le_refl _
theorem npr_in [DecidableEq Ob] : ∀ (o p : Ob), p ∈ Ob.toList o → npr p ≤ npr o
  | .op q l, p, h => by
    have h0 := npr_pos l
    have h1 := npr_pos q
    show npr p ≤ 1 + npr q + npr l
    rcases List.mem_cons.mp h with e | e
    · rw [e]; omega
    · have := npr_in l p e; omega
  | .var _, p, h => by cases h
def nprL [DecidableEq Ob] : List Ob → Int | [] => 0 | a :: l => npr a + nprL l
theorem nprL_pos [DecidableEq Ob] : ∀ l : List Ob, 0 ≤ nprL l
  | [] => Int.le_refl _
  | a :: l => by
    have h1 := npr_pos a
    have h2 := nprL_pos l
    show 0 ≤ npr a + nprL l
    omega
theorem nprL_list [DecidableEq Ob] : ∀ o : Ob, nprL (Ob.toList o) ≤ npr o
  | .op a b => by
    have h := nprL_list b
    show npr a + nprL (Ob.toList b) ≤ 1 + npr a + npr b
    omega
  | .var _ => Int.le_refl _
/-- what a PROOF has beside its parts -/
def own [DecidableEq Ob] (o : Ob) : Int := npr o - nprL (Sp.partsOf o)
theorem toList_drop [DecidableEq Ob] : ∀ (k : Nat) (o : Ob), (Ob.toList o).drop (k + 1) = (Ob.toList (Ob.rgt o)).drop k
  | k, .op a b => rfl
  | k, .var x => by
    show ([] : List Ob).drop (k + 1) = ([] : List Ob).drop k
    rw [List.drop_nil, List.drop_nil]
theorem npr_4 [DecidableEq Ob] (o : Ob) : npr (Ob.item o 1) + npr (Ob.item o 2) + npr (Ob.item o 3) ≤ npr o ∧ npr (Ob.item o 1) + npr (Ob.rgt (Ob.rgt o)) ≤ npr o ∧ npr (Ob.item o 1) + npr (Ob.item o 2) + npr (Ob.rgt (Ob.rgt (Ob.rgt o))) ≤ npr o := by
  have h0 := npr_lft o
  have h1 := npr_lft (Ob.rgt o)
  have h2 := npr_lft (Ob.rgt (Ob.rgt o))
  have h3 := npr_lft (Ob.rgt (Ob.rgt (Ob.rgt o)))
  have p0 := npr_pos (Ob.lft o)
  have p3 := npr_pos (Ob.rgt (Ob.rgt (Ob.rgt (Ob.rgt o))))
  have e1 : Ob.item o 1 = Ob.lft (Ob.rgt o) := by rw [show 1 = 0 + 1 from rfl, item_s, item_z]
  have e2 : Ob.item o 2 = Ob.lft (Ob.rgt (Ob.rgt o)) := by rw [show 2 = 0 + 1 + 1 from rfl, item_s, item_s, item_z]
  have e3 : Ob.item o 3 = Ob.lft (Ob.rgt (Ob.rgt (Ob.rgt o))) := by rw [show 3 = 0 + 1 + 1 + 1 from rfl, item_s, item_s, item_s, item_z]
  rw [e1, e2, e3]
  refine ⟨?_, ?_, ?_⟩ <;> omega
/-- what is read again beside the terms -/
def whC [DecidableEq Ob] (o : Ob) : Int := if Ob.lft o = Ob.value then npr (Ob.item o 1) + 1 else if Ob.lft o = Ob.weak then npr (Ob.item o 1) else if Ob.lft o = Ob.inst then npr (Ob.rgt (Ob.rgt o)) else 0
theorem whC_pos [DecidableEq Ob] (o : Ob) : 0 ≤ whC o := by
  have h1 := npr_pos (Ob.item o 1)
  have h2 := npr_pos (Ob.rgt (Ob.rgt o))
  unfold whC
  split
  · omega
  · split
    · omega
    · split <;> omega
theorem pc_isWhole [DecidableEq Ob] {a : Int} {Q : Int → iST → Prop} {u : iST} {E : Sp.Env} (hR : RdE u E) (hTo : TOc u E) (hDn : ∀ D, D ∈ E.defs → D.name.isName = true) (hDw : Sp.DWf E) (hDz : ∀ D, D ∈ E.defs → D.body.sz ≤ 120) (ha : VN u a) (hz : npr (oc u a) ≤ 100000) (hroom : u.1 29 + npr (oc u a) + 1 ≤ 160000) (hl2 : 2 ≤ Ob.len (oc u a)) (hpb : PrB E (Ob.toList (Ob.rgt (Ob.rgt (oc u a)))))
    (hq : ∀ r v, CG f8Un f8Ur u v → RdE v E → v.1 29 ≤ u.1 29 + whC (oc u a) → bq r (WhW E (oc u a)) → Q r v) : pv_3_isWholeFormed a Q u := by
  have hT := hR.1
  have np := npr_pos (oc u a)
  have ni1 := npr_item 1 (oc u a)
  have wp := whC_pos (oc u a)
  unfold pv_3_isWholeFormed
  refine pc_left hT ha (fun f vf ef => ?_)
  have stay : WhW E (oc u a) = true → Q 1 u := fun h => hq 1 u (CG.rf hT) hR (by omega) (bq1 h)
  have k30 := katC hT 30 (o := Ob.value) (by decide) (by decide) rfl vf.1 vf.2
  rw [ef] at k30
  have k31 := katC hT 31 (o := Ob.first) (by decide) (by decide) rfl vf.1 vf.2
  rw [ef] at k31
  have k32 := katC hT 32 (o := Ob.second) (by decide) (by decide) rfl vf.1 vf.2
  rw [ef] at k32
  have k33 := katC hT 33 (o := Ob.pair) (by decide) (by decide) rfl vf.1 vf.2
  rw [ef] at k33
  have k34 := katC hT 34 (o := Ob.yes) (by decide) (by decide) rfl vf.1 vf.2
  rw [ef] at k34
  have k35 := katC hT 35 (o := Ob.no) (by decide) (by decide) rfl vf.1 vf.2
  rw [ef] at k35
  have k36 := katC hT 36 (o := Ob.defS) (by decide) (by decide) rfl vf.1 vf.2
  rw [ef] at k36
  have k37 := katC hT 37 (o := Ob.thm) (by decide) (by decide) rfl vf.1 vf.2
  rw [ef] at k37
  have k38 := katC hT 38 (o := Ob.weak) (by decide) (by decide) rfl vf.1 vf.2
  rw [ef] at k38
  have k39 := katC hT 39 (o := Ob.cut) (by decide) (by decide) rfl vf.1 vf.2
  rw [ef] at k39
  have k40 := katC hT 40 (o := Ob.inst) (by decide) (by decide) rfl vf.1 vf.2
  rw [ef] at k40
  have k41 := katC hT 41 (o := Ob.swap) (by decide) (by decide) rfl vf.1 vf.2
  rw [ef] at k41
  have k42 := katC hT 42 (o := Ob.put) (by decide) (by decide) rfl vf.1 vf.2
  rw [ef] at k42
  have k43 := katC hT 43 (o := Ob.induct) (by decide) (by decide) rfl vf.1 vf.2
  rw [ef] at k43
  refine ⟨fun q => ?_, fun n30 => ?_⟩
  · have h := k30.mp q
    rw [WhW_value h] at hq
    have ew : whC (oc u a) = npr (Ob.item (oc u a) 1) + 1 := if_pos h
    refine pc_valueAt hR hDn ha hz (by omega) (fun t v gv hv v29 hor => ?_)
    have gU : CG f8Un f8Ur u v := gv.mono f8B_U f8W_U
    rcases hor with ⟨q1, q2⟩ | ⟨q1, q2⟩
    · exact ⟨fun _ _ => hq 0 v gU hv (by omega) (bq0 (congrArg (fun y : Option Ob => (match y with | some _ => true | none => false)) q2)), fun q => absurd q1 q⟩
    · exact ⟨fun q => by have := q1.1; omega, fun _ _ => hq 1 v gU hv (by omega) (bq1 (congrArg (fun y : Option Ob => (match y with | some _ => true | none => false)) q2))⟩
  refine ⟨fun q => ?_, fun n31 => ?_⟩
  · have h := k31.mp q
    exact fun _ => stay (WhW_first h)
  refine ⟨fun q => ?_, fun n32 => ?_⟩
  · have h := k32.mp q
    exact fun _ => stay (WhW_second h)
  refine ⟨fun q => ?_, fun n33 => ?_⟩
  · have h := k33.mp q
    exact fun _ => stay (WhW_pair h)
  refine ⟨fun q => ?_, fun n34 => ?_⟩
  · have h := k34.mp q
    exact fun _ => stay (WhW_yes h)
  refine ⟨fun q => ?_, fun n35 => ?_⟩
  · have h := k35.mp q
    exact fun _ => stay (WhW_no h)
  refine ⟨fun q => ?_, fun n36 => ?_⟩
  · have h := k36.mp q
    rw [WhW_defS h] at hq
    refine pc_item hT ha (by decide) (fun t vt et => ?_)
    have et : oc u t = Ob.item (oc u a) 1 := et
    refine pc_functionOf hT hR.2.1 vt (fun hno => ⟨fun _ _ => ?_, fun q => absurd rfl q⟩) (fun d d0 d1 _ hd => ⟨fun q => by omega, fun _ _ => ?_⟩)
    · rw [et] at hno
      exact hq 0 u (CG.rf hT) hR (by omega) (bq0 (by rw [hno]; rfl))
    · rw [et] at hd
      exact hq 1 u (CG.rf hT) hR (by omega) (bq1 (by rw [hd]; rfl))
  refine ⟨fun q => ?_, fun n37 => ?_⟩
  · have h := k37.mp q
    rw [WhW_thm h] at hq
    refine pc_item hT ha (by decide) (fun t vt et => ?_)
    have et : oc u t = Ob.item (oc u a) 1 := et
    refine pc_theoremOf hT hTo vt (fun hno => ⟨fun _ _ => ?_, fun q => absurd rfl q⟩) (fun j k _ _ _ hth => ⟨fun q => by omega, fun _ _ => ?_⟩)
    · rw [et] at hno
      exact hq 0 u (CG.rf hT) hR (by omega) (bq0 (by rw [hno]; rfl))
    · rw [et] at hth
      exact hq 1 u (CG.rf hT) hR (by omega) (bq1 (by rw [hth]; rfl))
  refine ⟨fun q => ?_, fun n38 => ?_⟩
  · have h := k38.mp q
    rw [WhW_weak h] at hq
    have ew : whC (oc u a) = npr (Ob.item (oc u a) 1) := by
      unfold whC
      rw [if_neg (show ¬ Ob.lft (oc u a) = Ob.value from fun q2 => absurd (h.symm.trans q2) (show Ob.weak ≠ Ob.value from Ob.sym_ne (by decide))), if_pos h]
    refine pc_item hT ha (by decide) (fun t vt et => ?_)
    have et : oc u t = Ob.item (oc u a) 1 := et
    refine pc_isListOfTerms hR vt (by rw [et]; omega) (by rw [et]; omega) (fun r v gv hv v29 hr => ?_)
    rw [et] at v29 hr
    intro _
    exact hq r v (gv.mono f8B_U f8W_U) hv (by omega) hr
  refine ⟨fun q => ?_, fun n39 => ?_⟩
  · have h := k39.mp q
    exact fun _ => stay (WhW_cut h)
  refine ⟨fun q => ?_, fun n40 => ?_⟩
  · have h := k40.mp q
    rw [WhW_inst h] at hq
    have ew : whC (oc u a) = npr (Ob.rgt (Ob.rgt (oc u a))) := by
      unfold whC
      rw [if_neg (show ¬ Ob.lft (oc u a) = Ob.value from fun q2 => absurd (h.symm.trans q2) (show Ob.inst ≠ Ob.value from Ob.sym_ne (by decide))), if_neg (show ¬ Ob.lft (oc u a) = Ob.weak from fun q2 => absurd (h.symm.trans q2) (show Ob.inst ≠ Ob.weak from Ob.sym_ne (by decide))), if_pos h]
    refine pc_right hT ha (fun t1 vt1 et1 => ?_)
    refine pc_right hT vt1 (fun t2 vt2 et2 => ?_)
    rw [et1] at et2
    have nr1 := npr_lft (oc u a)
    have nr2 := npr_lft (Ob.rgt (oc u a))
    have nl1 := npr_pos (Ob.lft (oc u a))
    have nl2 := npr_pos (Ob.lft (Ob.rgt (oc u a)))
    have cp := cpL_npr (Ob.rgt (Ob.rgt (oc u a)))
    refine pc_bindPairs hT hR.2.1 hR.2.2.1 (arOf6 hR.2.1) hR.2.2.2.2 vt2 (by rw [et2]; exact len_rr hl2) (by rw [et2]; exact hpb) (fun p hp => ?_) hR.2.2.2.1 (by rw [et2]; omega) (fun v gv v32 v29 hno => ?_) (fun v ps gv v32 v29 _ _ hsm _ => ?_)
    · rw [et2] at hp
      have h1 := npr_in _ _ hp
      have h2 := npr_item 1 p
      have h3 : (Ob.item p 1).sz ≤ npr (Ob.item p 1) + 1 := (csM_npr false (Ob.item p 1)).2
      omega
    · rw [et2] at v29 hno
      intro _
      have gU : CG f8Un f8Ur u v := gv.mono f8Y_U f8p_U
      exact hq 0 v gU (hR.up gU (by decide) (by decide) f8Ur_lo v32) (by omega) (bq0 (by rw [hno]; rfl))
    · rw [et2] at v29 hsm
      intro _
      have gU : CG f8Un f8Ur u v := gv.mono f8Y_U f8p_U
      exact hq 1 v gU (hR.up gU (by decide) (by decide) f8Ur_lo v32) (by omega) (bq1 (by rw [hsm]; rfl))
  refine ⟨fun q => ?_, fun n41 => ?_⟩
  · have h := k41.mp q
    exact fun _ => stay (WhW_swap h)
  refine ⟨fun q => ?_, fun n42 => ?_⟩
  · have h := k42.mp q
    exact fun _ => stay (WhW_put h)
  refine ⟨fun q => ?_, fun n43 => ?_⟩
  · have h := k43.mp q
    rw [WhW_induct h] at hq
    refine pc_isInductionF hR hDw hDz ha (fun r v gv vc hr => ?_)
    intro _
    have gU : CG f8Un f8Ur u v := gv.mono f8h_U f8g_U
    exact hq r v gU (hR.up gU (by decide) (by decide) f8Ur_lo (by rw [gv.2.2.1 32 (by decide)]; exact hR.2.2.2.1)) (by rw [gv.2.2.1 29 (by decide)]; omega) hr
  intro _
  refine stay ?_
  unfold WhW
  rw [if_neg (fun q => n30 (k30.mpr q)), if_neg (fun q => n36 (k36.mpr q)), if_neg (fun q => n37 (k37.mpr q)), if_neg (fun q => n38 (k38.mpr q)), if_neg (fun q => n40 (k40.mpr q)), if_neg (fun q => n43 (k43.mpr q))]
theorem FrW_len [DecidableEq Ob] {E : Sp.Env} {o : Ob} {f : Int} (h : FrW E o f = true) : 2 ≤ Ob.len o := by
  unfold FrW at h
  rw [Bool.and_eq_true, Bool.and_eq_true, Bool.and_eq_true, decide_eq_true_eq, decide_eq_true_eq] at h
  have : ∀ i : Nat, i < 16 → 2 ≤ yT_LENGTHS.getD i 0 := by decide
  have := this (f - 28).toNat (by omega)
  omega
theorem ptsC_taut [DecidableEq Ob] {o : Ob} (h : Ob.lft o = Ob.taut) : Sp.partsOf o = [] := by
  unfold Sp.partsOf
  rw [if_neg (show ¬ Ob.lft o = Ob.weak from fun q2 => absurd (h.symm.trans q2) (show Ob.taut ≠ Ob.weak from Ob.sym_ne (by decide))), if_neg (show ¬ Ob.lft o = Ob.cut from fun q2 => absurd (h.symm.trans q2) (show Ob.taut ≠ Ob.cut from Ob.sym_ne (by decide))), if_neg (show ¬ (Ob.lft o = Ob.inst ∨ Ob.lft o = Ob.swap) from fun q2 => q2.elim (fun q2 => absurd (h.symm.trans q2) (show Ob.taut ≠ Ob.inst from Ob.sym_ne (by decide))) (fun q2 => absurd (h.symm.trans q2) (show Ob.taut ≠ Ob.swap from Ob.sym_ne (by decide)))), if_neg (show ¬ Ob.lft o = Ob.put from fun q2 => absurd (h.symm.trans q2) (show Ob.taut ≠ Ob.put from Ob.sym_ne (by decide))), if_neg (show ¬ Ob.lft o = Ob.induct from fun q2 => absurd (h.symm.trans q2) (show Ob.taut ≠ Ob.induct from Ob.sym_ne (by decide)))]
theorem ptsC_same [DecidableEq Ob] {o : Ob} (h : Ob.lft o = Ob.same) : Sp.partsOf o = [] := by
  unfold Sp.partsOf
  rw [if_neg (show ¬ Ob.lft o = Ob.weak from fun q2 => absurd (h.symm.trans q2) (show Ob.same ≠ Ob.weak from Ob.sym_ne (by decide))), if_neg (show ¬ Ob.lft o = Ob.cut from fun q2 => absurd (h.symm.trans q2) (show Ob.same ≠ Ob.cut from Ob.sym_ne (by decide))), if_neg (show ¬ (Ob.lft o = Ob.inst ∨ Ob.lft o = Ob.swap) from fun q2 => q2.elim (fun q2 => absurd (h.symm.trans q2) (show Ob.same ≠ Ob.inst from Ob.sym_ne (by decide))) (fun q2 => absurd (h.symm.trans q2) (show Ob.same ≠ Ob.swap from Ob.sym_ne (by decide)))), if_neg (show ¬ Ob.lft o = Ob.put from fun q2 => absurd (h.symm.trans q2) (show Ob.same ≠ Ob.put from Ob.sym_ne (by decide))), if_neg (show ¬ Ob.lft o = Ob.induct from fun q2 => absurd (h.symm.trans q2) (show Ob.same ≠ Ob.induct from Ob.sym_ne (by decide)))]
theorem ptsC_value [DecidableEq Ob] {o : Ob} (h : Ob.lft o = Ob.value) : Sp.partsOf o = [] := by
  unfold Sp.partsOf
  rw [if_neg (show ¬ Ob.lft o = Ob.weak from fun q2 => absurd (h.symm.trans q2) (show Ob.value ≠ Ob.weak from Ob.sym_ne (by decide))), if_neg (show ¬ Ob.lft o = Ob.cut from fun q2 => absurd (h.symm.trans q2) (show Ob.value ≠ Ob.cut from Ob.sym_ne (by decide))), if_neg (show ¬ (Ob.lft o = Ob.inst ∨ Ob.lft o = Ob.swap) from fun q2 => q2.elim (fun q2 => absurd (h.symm.trans q2) (show Ob.value ≠ Ob.inst from Ob.sym_ne (by decide))) (fun q2 => absurd (h.symm.trans q2) (show Ob.value ≠ Ob.swap from Ob.sym_ne (by decide)))), if_neg (show ¬ Ob.lft o = Ob.put from fun q2 => absurd (h.symm.trans q2) (show Ob.value ≠ Ob.put from Ob.sym_ne (by decide))), if_neg (show ¬ Ob.lft o = Ob.induct from fun q2 => absurd (h.symm.trans q2) (show Ob.value ≠ Ob.induct from Ob.sym_ne (by decide)))]
theorem ptsC_first [DecidableEq Ob] {o : Ob} (h : Ob.lft o = Ob.first) : Sp.partsOf o = [] := by
  unfold Sp.partsOf
  rw [if_neg (show ¬ Ob.lft o = Ob.weak from fun q2 => absurd (h.symm.trans q2) (show Ob.first ≠ Ob.weak from Ob.sym_ne (by decide))), if_neg (show ¬ Ob.lft o = Ob.cut from fun q2 => absurd (h.symm.trans q2) (show Ob.first ≠ Ob.cut from Ob.sym_ne (by decide))), if_neg (show ¬ (Ob.lft o = Ob.inst ∨ Ob.lft o = Ob.swap) from fun q2 => q2.elim (fun q2 => absurd (h.symm.trans q2) (show Ob.first ≠ Ob.inst from Ob.sym_ne (by decide))) (fun q2 => absurd (h.symm.trans q2) (show Ob.first ≠ Ob.swap from Ob.sym_ne (by decide)))), if_neg (show ¬ Ob.lft o = Ob.put from fun q2 => absurd (h.symm.trans q2) (show Ob.first ≠ Ob.put from Ob.sym_ne (by decide))), if_neg (show ¬ Ob.lft o = Ob.induct from fun q2 => absurd (h.symm.trans q2) (show Ob.first ≠ Ob.induct from Ob.sym_ne (by decide)))]
theorem ptsC_second [DecidableEq Ob] {o : Ob} (h : Ob.lft o = Ob.second) : Sp.partsOf o = [] := by
  unfold Sp.partsOf
  rw [if_neg (show ¬ Ob.lft o = Ob.weak from fun q2 => absurd (h.symm.trans q2) (show Ob.second ≠ Ob.weak from Ob.sym_ne (by decide))), if_neg (show ¬ Ob.lft o = Ob.cut from fun q2 => absurd (h.symm.trans q2) (show Ob.second ≠ Ob.cut from Ob.sym_ne (by decide))), if_neg (show ¬ (Ob.lft o = Ob.inst ∨ Ob.lft o = Ob.swap) from fun q2 => q2.elim (fun q2 => absurd (h.symm.trans q2) (show Ob.second ≠ Ob.inst from Ob.sym_ne (by decide))) (fun q2 => absurd (h.symm.trans q2) (show Ob.second ≠ Ob.swap from Ob.sym_ne (by decide)))), if_neg (show ¬ Ob.lft o = Ob.put from fun q2 => absurd (h.symm.trans q2) (show Ob.second ≠ Ob.put from Ob.sym_ne (by decide))), if_neg (show ¬ Ob.lft o = Ob.induct from fun q2 => absurd (h.symm.trans q2) (show Ob.second ≠ Ob.induct from Ob.sym_ne (by decide)))]
theorem ptsC_pair [DecidableEq Ob] {o : Ob} (h : Ob.lft o = Ob.pair) : Sp.partsOf o = [] := by
  unfold Sp.partsOf
  rw [if_neg (show ¬ Ob.lft o = Ob.weak from fun q2 => absurd (h.symm.trans q2) (show Ob.pair ≠ Ob.weak from Ob.sym_ne (by decide))), if_neg (show ¬ Ob.lft o = Ob.cut from fun q2 => absurd (h.symm.trans q2) (show Ob.pair ≠ Ob.cut from Ob.sym_ne (by decide))), if_neg (show ¬ (Ob.lft o = Ob.inst ∨ Ob.lft o = Ob.swap) from fun q2 => q2.elim (fun q2 => absurd (h.symm.trans q2) (show Ob.pair ≠ Ob.inst from Ob.sym_ne (by decide))) (fun q2 => absurd (h.symm.trans q2) (show Ob.pair ≠ Ob.swap from Ob.sym_ne (by decide)))), if_neg (show ¬ Ob.lft o = Ob.put from fun q2 => absurd (h.symm.trans q2) (show Ob.pair ≠ Ob.put from Ob.sym_ne (by decide))), if_neg (show ¬ Ob.lft o = Ob.induct from fun q2 => absurd (h.symm.trans q2) (show Ob.pair ≠ Ob.induct from Ob.sym_ne (by decide)))]
theorem ptsC_yes [DecidableEq Ob] {o : Ob} (h : Ob.lft o = Ob.yes) : Sp.partsOf o = [] := by
  unfold Sp.partsOf
  rw [if_neg (show ¬ Ob.lft o = Ob.weak from fun q2 => absurd (h.symm.trans q2) (show Ob.yes ≠ Ob.weak from Ob.sym_ne (by decide))), if_neg (show ¬ Ob.lft o = Ob.cut from fun q2 => absurd (h.symm.trans q2) (show Ob.yes ≠ Ob.cut from Ob.sym_ne (by decide))), if_neg (show ¬ (Ob.lft o = Ob.inst ∨ Ob.lft o = Ob.swap) from fun q2 => q2.elim (fun q2 => absurd (h.symm.trans q2) (show Ob.yes ≠ Ob.inst from Ob.sym_ne (by decide))) (fun q2 => absurd (h.symm.trans q2) (show Ob.yes ≠ Ob.swap from Ob.sym_ne (by decide)))), if_neg (show ¬ Ob.lft o = Ob.put from fun q2 => absurd (h.symm.trans q2) (show Ob.yes ≠ Ob.put from Ob.sym_ne (by decide))), if_neg (show ¬ Ob.lft o = Ob.induct from fun q2 => absurd (h.symm.trans q2) (show Ob.yes ≠ Ob.induct from Ob.sym_ne (by decide)))]
theorem ptsC_no [DecidableEq Ob] {o : Ob} (h : Ob.lft o = Ob.no) : Sp.partsOf o = [] := by
  unfold Sp.partsOf
  rw [if_neg (show ¬ Ob.lft o = Ob.weak from fun q2 => absurd (h.symm.trans q2) (show Ob.no ≠ Ob.weak from Ob.sym_ne (by decide))), if_neg (show ¬ Ob.lft o = Ob.cut from fun q2 => absurd (h.symm.trans q2) (show Ob.no ≠ Ob.cut from Ob.sym_ne (by decide))), if_neg (show ¬ (Ob.lft o = Ob.inst ∨ Ob.lft o = Ob.swap) from fun q2 => q2.elim (fun q2 => absurd (h.symm.trans q2) (show Ob.no ≠ Ob.inst from Ob.sym_ne (by decide))) (fun q2 => absurd (h.symm.trans q2) (show Ob.no ≠ Ob.swap from Ob.sym_ne (by decide)))), if_neg (show ¬ Ob.lft o = Ob.put from fun q2 => absurd (h.symm.trans q2) (show Ob.no ≠ Ob.put from Ob.sym_ne (by decide))), if_neg (show ¬ Ob.lft o = Ob.induct from fun q2 => absurd (h.symm.trans q2) (show Ob.no ≠ Ob.induct from Ob.sym_ne (by decide)))]
theorem ptsC_defS [DecidableEq Ob] {o : Ob} (h : Ob.lft o = Ob.defS) : Sp.partsOf o = [] := by
  unfold Sp.partsOf
  rw [if_neg (show ¬ Ob.lft o = Ob.weak from fun q2 => absurd (h.symm.trans q2) (show Ob.defS ≠ Ob.weak from Ob.sym_ne (by decide))), if_neg (show ¬ Ob.lft o = Ob.cut from fun q2 => absurd (h.symm.trans q2) (show Ob.defS ≠ Ob.cut from Ob.sym_ne (by decide))), if_neg (show ¬ (Ob.lft o = Ob.inst ∨ Ob.lft o = Ob.swap) from fun q2 => q2.elim (fun q2 => absurd (h.symm.trans q2) (show Ob.defS ≠ Ob.inst from Ob.sym_ne (by decide))) (fun q2 => absurd (h.symm.trans q2) (show Ob.defS ≠ Ob.swap from Ob.sym_ne (by decide)))), if_neg (show ¬ Ob.lft o = Ob.put from fun q2 => absurd (h.symm.trans q2) (show Ob.defS ≠ Ob.put from Ob.sym_ne (by decide))), if_neg (show ¬ Ob.lft o = Ob.induct from fun q2 => absurd (h.symm.trans q2) (show Ob.defS ≠ Ob.induct from Ob.sym_ne (by decide)))]
theorem ptsC_thm [DecidableEq Ob] {o : Ob} (h : Ob.lft o = Ob.thm) : Sp.partsOf o = [] := by
  unfold Sp.partsOf
  rw [if_neg (show ¬ Ob.lft o = Ob.weak from fun q2 => absurd (h.symm.trans q2) (show Ob.thm ≠ Ob.weak from Ob.sym_ne (by decide))), if_neg (show ¬ Ob.lft o = Ob.cut from fun q2 => absurd (h.symm.trans q2) (show Ob.thm ≠ Ob.cut from Ob.sym_ne (by decide))), if_neg (show ¬ (Ob.lft o = Ob.inst ∨ Ob.lft o = Ob.swap) from fun q2 => q2.elim (fun q2 => absurd (h.symm.trans q2) (show Ob.thm ≠ Ob.inst from Ob.sym_ne (by decide))) (fun q2 => absurd (h.symm.trans q2) (show Ob.thm ≠ Ob.swap from Ob.sym_ne (by decide)))), if_neg (show ¬ Ob.lft o = Ob.put from fun q2 => absurd (h.symm.trans q2) (show Ob.thm ≠ Ob.put from Ob.sym_ne (by decide))), if_neg (show ¬ Ob.lft o = Ob.induct from fun q2 => absurd (h.symm.trans q2) (show Ob.thm ≠ Ob.induct from Ob.sym_ne (by decide)))]
theorem ptsC_weak [DecidableEq Ob] {o : Ob} (h : Ob.lft o = Ob.weak) : Sp.partsOf o = [Ob.item o 2] := by
  unfold Sp.partsOf
  rw [if_pos h]
theorem ptsC_cut [DecidableEq Ob] {o : Ob} (h : Ob.lft o = Ob.cut) : Sp.partsOf o = [Ob.item o 2, Ob.item o 3] := by
  unfold Sp.partsOf
  rw [if_neg (show ¬ Ob.lft o = Ob.weak from fun q2 => absurd (h.symm.trans q2) (show Ob.cut ≠ Ob.weak from Ob.sym_ne (by decide))), if_pos h]
theorem ptsC_inst [DecidableEq Ob] {o : Ob} (h : Ob.lft o = Ob.inst) : Sp.partsOf o = [Ob.item o 1] := by
  unfold Sp.partsOf
  rw [if_neg (show ¬ Ob.lft o = Ob.weak from fun q2 => absurd (h.symm.trans q2) (show Ob.inst ≠ Ob.weak from Ob.sym_ne (by decide))), if_neg (show ¬ Ob.lft o = Ob.cut from fun q2 => absurd (h.symm.trans q2) (show Ob.inst ≠ Ob.cut from Ob.sym_ne (by decide))), if_pos (Or.inl h)]
theorem ptsC_swap [DecidableEq Ob] {o : Ob} (h : Ob.lft o = Ob.swap) : Sp.partsOf o = [Ob.item o 1] := by
  unfold Sp.partsOf
  rw [if_neg (show ¬ Ob.lft o = Ob.weak from fun q2 => absurd (h.symm.trans q2) (show Ob.swap ≠ Ob.weak from Ob.sym_ne (by decide))), if_neg (show ¬ Ob.lft o = Ob.cut from fun q2 => absurd (h.symm.trans q2) (show Ob.swap ≠ Ob.cut from Ob.sym_ne (by decide))), if_pos (Or.inr h)]
theorem ptsC_put [DecidableEq Ob] {o : Ob} (h : Ob.lft o = Ob.put) : Sp.partsOf o = [Ob.item o 1, Ob.item o 2] := by
  unfold Sp.partsOf
  rw [if_neg (show ¬ Ob.lft o = Ob.weak from fun q2 => absurd (h.symm.trans q2) (show Ob.put ≠ Ob.weak from Ob.sym_ne (by decide))), if_neg (show ¬ Ob.lft o = Ob.cut from fun q2 => absurd (h.symm.trans q2) (show Ob.put ≠ Ob.cut from Ob.sym_ne (by decide))), if_neg (show ¬ (Ob.lft o = Ob.inst ∨ Ob.lft o = Ob.swap) from fun q2 => q2.elim (fun q2 => absurd (h.symm.trans q2) (show Ob.put ≠ Ob.inst from Ob.sym_ne (by decide))) (fun q2 => absurd (h.symm.trans q2) (show Ob.put ≠ Ob.swap from Ob.sym_ne (by decide)))), if_pos h]
theorem ptsC_induct [DecidableEq Ob] {o : Ob} (h : Ob.lft o = Ob.induct) : Sp.partsOf o = (Ob.toList o).drop 3 := by
  unfold Sp.partsOf
  rw [if_neg (show ¬ Ob.lft o = Ob.weak from fun q2 => absurd (h.symm.trans q2) (show Ob.induct ≠ Ob.weak from Ob.sym_ne (by decide))), if_neg (show ¬ Ob.lft o = Ob.cut from fun q2 => absurd (h.symm.trans q2) (show Ob.induct ≠ Ob.cut from Ob.sym_ne (by decide))), if_neg (show ¬ (Ob.lft o = Ob.inst ∨ Ob.lft o = Ob.swap) from fun q2 => q2.elim (fun q2 => absurd (h.symm.trans q2) (show Ob.induct ≠ Ob.inst from Ob.sym_ne (by decide))) (fun q2 => absurd (h.symm.trans q2) (show Ob.induct ≠ Ob.swap from Ob.sym_ne (by decide)))), if_neg (show ¬ Ob.lft o = Ob.put from fun q2 => absurd (h.symm.trans q2) (show Ob.induct ≠ Ob.put from Ob.sym_ne (by decide))), if_pos h]
theorem own_taut [DecidableEq Ob] {o : Ob} (h : Ob.lft o = Ob.taut) : own o = npr o := by
  unfold own
  rw [ptsC_taut h]
  show npr o - 0 = npr o
  omega
theorem own_same [DecidableEq Ob] {o : Ob} (h : Ob.lft o = Ob.same) : own o = npr o := by
  unfold own
  rw [ptsC_same h]
  show npr o - 0 = npr o
  omega
theorem own_value [DecidableEq Ob] {o : Ob} (h : Ob.lft o = Ob.value) : own o = npr o := by
  unfold own
  rw [ptsC_value h]
  show npr o - 0 = npr o
  omega
theorem own_first [DecidableEq Ob] {o : Ob} (h : Ob.lft o = Ob.first) : own o = npr o := by
  unfold own
  rw [ptsC_first h]
  show npr o - 0 = npr o
  omega
theorem own_second [DecidableEq Ob] {o : Ob} (h : Ob.lft o = Ob.second) : own o = npr o := by
  unfold own
  rw [ptsC_second h]
  show npr o - 0 = npr o
  omega
theorem own_pair [DecidableEq Ob] {o : Ob} (h : Ob.lft o = Ob.pair) : own o = npr o := by
  unfold own
  rw [ptsC_pair h]
  show npr o - 0 = npr o
  omega
theorem own_yes [DecidableEq Ob] {o : Ob} (h : Ob.lft o = Ob.yes) : own o = npr o := by
  unfold own
  rw [ptsC_yes h]
  show npr o - 0 = npr o
  omega
theorem own_no [DecidableEq Ob] {o : Ob} (h : Ob.lft o = Ob.no) : own o = npr o := by
  unfold own
  rw [ptsC_no h]
  show npr o - 0 = npr o
  omega
theorem own_defS [DecidableEq Ob] {o : Ob} (h : Ob.lft o = Ob.defS) : own o = npr o := by
  unfold own
  rw [ptsC_defS h]
  show npr o - 0 = npr o
  omega
theorem own_thm [DecidableEq Ob] {o : Ob} (h : Ob.lft o = Ob.thm) : own o = npr o := by
  unfold own
  rw [ptsC_thm h]
  show npr o - 0 = npr o
  omega
theorem own_weak [DecidableEq Ob] {o : Ob} (h : Ob.lft o = Ob.weak) : npr (Ob.item o 1) ≤ own o := by
  have h4 := npr_4 o
  have q1 := npr_pos (Ob.item o 1)
  have q2 := npr_pos (Ob.item o 2)
  have q3 := npr_pos (Ob.item o 3)
  have q4 := npr_pos (Ob.rgt (Ob.rgt o))
  unfold own
  rw [ptsC_weak h]
  show npr (Ob.item o 1) ≤ npr o - (npr (Ob.item o 2) + 0)
  omega
theorem own_cut [DecidableEq Ob] {o : Ob} (h : Ob.lft o = Ob.cut) : npr (Ob.item o 1) ≤ own o := by
  have h4 := npr_4 o
  have q1 := npr_pos (Ob.item o 1)
  have q2 := npr_pos (Ob.item o 2)
  have q3 := npr_pos (Ob.item o 3)
  have q4 := npr_pos (Ob.rgt (Ob.rgt o))
  unfold own
  rw [ptsC_cut h]
  show npr (Ob.item o 1) ≤ npr o - (npr (Ob.item o 2) + (npr (Ob.item o 3) + 0))
  omega
theorem own_inst [DecidableEq Ob] {o : Ob} (h : Ob.lft o = Ob.inst) : npr (Ob.rgt (Ob.rgt o)) ≤ own o := by
  have h4 := npr_4 o
  have q1 := npr_pos (Ob.item o 1)
  have q2 := npr_pos (Ob.item o 2)
  have q3 := npr_pos (Ob.item o 3)
  have q4 := npr_pos (Ob.rgt (Ob.rgt o))
  unfold own
  rw [ptsC_inst h]
  show npr (Ob.rgt (Ob.rgt o)) ≤ npr o - (npr (Ob.item o 1) + 0)
  omega
theorem own_swap [DecidableEq Ob] {o : Ob} (h : Ob.lft o = Ob.swap) : 0 ≤ own o := by
  have h4 := npr_4 o
  have q1 := npr_pos (Ob.item o 1)
  have q2 := npr_pos (Ob.item o 2)
  have q3 := npr_pos (Ob.item o 3)
  have q4 := npr_pos (Ob.rgt (Ob.rgt o))
  unfold own
  rw [ptsC_swap h]
  show 0 ≤ npr o - (npr (Ob.item o 1) + 0)
  omega
theorem own_put [DecidableEq Ob] {o : Ob} (h : Ob.lft o = Ob.put) : 0 ≤ own o := by
  have h4 := npr_4 o
  have q1 := npr_pos (Ob.item o 1)
  have q2 := npr_pos (Ob.item o 2)
  have q3 := npr_pos (Ob.item o 3)
  have q4 := npr_pos (Ob.rgt (Ob.rgt o))
  unfold own
  rw [ptsC_put h]
  show 0 ≤ npr o - (npr (Ob.item o 1) + (npr (Ob.item o 2) + 0))
  omega
theorem own_induct [DecidableEq Ob] {o : Ob} (h : Ob.lft o = Ob.induct) : npr (Ob.item o 1) ≤ own o := by
  have h4 := npr_4 o
  have q1 := npr_pos (Ob.item o 1)
  have q2 := npr_pos (Ob.item o 2)
  have q3 := npr_pos (Ob.item o 3)
  have q4 := npr_pos (Ob.rgt (Ob.rgt o))
  unfold own
  rw [ptsC_induct h]
  have e : (Ob.toList o).drop 3 = Ob.toList (Ob.rgt (Ob.rgt (Ob.rgt o))) := by
    rw [show 3 = 0 + 1 + 1 + 1 from rfl, toList_drop, toList_drop, toList_drop, List.drop_zero]
  have h5 := nprL_list (Ob.rgt (Ob.rgt (Ob.rgt o)))
  rw [e]
  omega
theorem form_cost [DecidableEq Ob] {E : Sp.Env} {o : Ob} {f : Int} (hf : ∀ (c : Int) (s : Ob), 0 ≤ c → c < 44 → Ob.knownC[c.toNat]? = some s → (f = c ↔ Ob.lft o = s)) (hF : FrW E o f = true) : csI o (tcN f) + whC o ≤ 2 * own o + 1 ∧ 0 ≤ own o := by
  have hr : 28 ≤ f ∧ f ≤ 43 := by
    unfold FrW at hF
    exact decide_eq_true_eq.mp (Bool.and_eq_true_iff.mp hF).1
  have h4 := npr_4 o
  have np := npr_pos o
  have q1 := npr_pos (Ob.item o 1)
  have q2 := npr_pos (Ob.item o 2)
  have q3 := npr_pos (Ob.item o 3)
  have q4 := npr_pos (Ob.rgt (Ob.rgt o))
  have k30 := hf 30 Ob.value (by decide) (by decide) rfl
  have k38 := hf 38 Ob.weak (by decide) (by decide) rfl
  have k40 := hf 40 Ob.inst (by decide) (by decide) rfl
  have w0 : f ≠ 30 → f ≠ 38 → f ≠ 40 → whC o = 0 := fun a b c => by
    unfold whC
    rw [if_neg (fun q => a (k30.mpr q)), if_neg (fun q => b (k38.mpr q)), if_neg (fun q => c (k40.mpr q))]
  have s1 : csI o 1 = 0 + npr (Ob.item o 1) := rfl
  have s2 : csI o 2 = 0 + npr (Ob.item o 1) + npr (Ob.item o 2) := rfl
  have s3 : csI o 3 = 0 + npr (Ob.item o 1) + npr (Ob.item o 2) + npr (Ob.item o 3) := rfl
  have s0 : csI o 0 = 0 := rfl
  by_cases c28 : f = 28
  · have h := (hf 28 Ob.taut (by decide) (by decide) rfl).mp c28
    have et : tcN f = 1 := by rw [c28]; rfl
    have ow := own_taut h
    rw [et]
    have ew := w0 (by omega) (by omega) (by omega)
    constructor <;> omega
  by_cases c29 : f = 29
  · have h := (hf 29 Ob.same (by decide) (by decide) rfl).mp c29
    have et : tcN f = 1 := by rw [c29]; rfl
    have ow := own_same h
    rw [et]
    have ew := w0 (by omega) (by omega) (by omega)
    constructor <;> omega
  by_cases c30 : f = 30
  · have h := (hf 30 Ob.value (by decide) (by decide) rfl).mp c30
    have et : tcN f = 1 := by rw [c30]; rfl
    have ow := own_value h
    rw [et]
    have ew : whC o = npr (Ob.item o 1) + 1 := if_pos h
    constructor <;> omega
  by_cases c31 : f = 31
  · have h := (hf 31 Ob.first (by decide) (by decide) rfl).mp c31
    have et : tcN f = 2 := by rw [c31]; rfl
    have ow := own_first h
    rw [et]
    have ew := w0 (by omega) (by omega) (by omega)
    constructor <;> omega
  by_cases c32 : f = 32
  · have h := (hf 32 Ob.second (by decide) (by decide) rfl).mp c32
    have et : tcN f = 2 := by rw [c32]; rfl
    have ow := own_second h
    rw [et]
    have ew := w0 (by omega) (by omega) (by omega)
    constructor <;> omega
  by_cases c33 : f = 33
  · have h := (hf 33 Ob.pair (by decide) (by decide) rfl).mp c33
    have et : tcN f = 2 := by rw [c33]; rfl
    have ow := own_pair h
    rw [et]
    have ew := w0 (by omega) (by omega) (by omega)
    constructor <;> omega
  by_cases c34 : f = 34
  · have h := (hf 34 Ob.yes (by decide) (by decide) rfl).mp c34
    have et : tcN f = 3 := by rw [c34]; rfl
    have ow := own_yes h
    rw [et]
    have ew := w0 (by omega) (by omega) (by omega)
    constructor <;> omega
  by_cases c35 : f = 35
  · have h := (hf 35 Ob.no (by decide) (by decide) rfl).mp c35
    have et : tcN f = 3 := by rw [c35]; rfl
    have ow := own_no h
    rw [et]
    have ew := w0 (by omega) (by omega) (by omega)
    constructor <;> omega
  by_cases c36 : f = 36
  · have h := (hf 36 Ob.defS (by decide) (by decide) rfl).mp c36
    have et : tcN f = 0 := by rw [c36]; rfl
    have ow := own_defS h
    rw [et]
    have ew := w0 (by omega) (by omega) (by omega)
    constructor <;> omega
  by_cases c37 : f = 37
  · have h := (hf 37 Ob.thm (by decide) (by decide) rfl).mp c37
    have et : tcN f = 0 := by rw [c37]; rfl
    have ow := own_thm h
    rw [et]
    have ew := w0 (by omega) (by omega) (by omega)
    constructor <;> omega
  by_cases c38 : f = 38
  · have h := (hf 38 Ob.weak (by decide) (by decide) rfl).mp c38
    have et : tcN f = 0 := by rw [c38]; rfl
    have ow := own_weak h
    rw [et]
    have ew : whC o = npr (Ob.item o 1) := by
      unfold whC
      rw [if_neg (fun q => absurd (k30.mpr q) (by omega)), if_pos h]
    constructor <;> omega
  by_cases c39 : f = 39
  · have h := (hf 39 Ob.cut (by decide) (by decide) rfl).mp c39
    have et : tcN f = 1 := by rw [c39]; rfl
    have ow := own_cut h
    rw [et]
    have ew := w0 (by omega) (by omega) (by omega)
    constructor <;> omega
  by_cases c40 : f = 40
  · have h := (hf 40 Ob.inst (by decide) (by decide) rfl).mp c40
    have et : tcN f = 0 := by rw [c40]; rfl
    have ow := own_inst h
    rw [et]
    have ew : whC o = npr (Ob.rgt (Ob.rgt o)) := by
      unfold whC
      rw [if_neg (fun q => absurd (k30.mpr q) (by omega)), if_neg (fun q => absurd (k38.mpr q) (by omega)), if_pos h]
    constructor <;> omega
  by_cases c41 : f = 41
  · have h := (hf 41 Ob.swap (by decide) (by decide) rfl).mp c41
    have et : tcN f = 0 := by rw [c41]; rfl
    have ow := own_swap h
    rw [et]
    have ew := w0 (by omega) (by omega) (by omega)
    constructor <;> omega
  by_cases c42 : f = 42
  · have h := (hf 42 Ob.put (by decide) (by decide) rfl).mp c42
    have et : tcN f = 0 := by rw [c42]; rfl
    have ow := own_put h
    rw [et]
    have ew := w0 (by omega) (by omega) (by omega)
    constructor <;> omega
  by_cases c43 : f = 43
  · have h := (hf 43 Ob.induct (by decide) (by decide) rfl).mp c43
    have et : tcN f = 1 := by rw [c43]; rfl
    have ow := own_induct h
    rw [et]
    have ew := w0 (by omega) (by omega) (by omega)
    constructor <;> omega
  omega
theorem whC_le [DecidableEq Ob] (o : Ob) : whC o ≤ npr o + 1 := by
  have h1 := npr_item 1 o
  have h4 := npr_4 o
  have q1 := npr_pos (Ob.item o 1)
  have np := npr_pos o
  unfold whC
  split
  · omega
  · split
    · omega
    · split <;> omega
theorem tcN_le [DecidableEq Ob] (f : Int) : tcN f ≤ 3 := by
  unfold tcN
  by_cases c : (f - 28).toNat < 16
  · have := tc_le (f - 28).toNat c
    omega
  · have : yT_TERM_COUNTS.getD (f - 28).toNat 0 = 0 := by
      rw [List.getD_eq_getElem?_getD, List.getElem?_eq_none (by show 16 ≤ _; omega)]
      rfl
    rw [this]
    decide
/-- whether a PROOF is as told -/
theorem pc_isForm [DecidableEq Ob] {a : Int} {A B : iST → Prop} {u : iST} {E : Sp.Env} (hR : RdE u E) (hTo : TOc u E) (hDn : ∀ D, D ∈ E.defs → D.name.isName = true) (hDw : Sp.DWf E) (hDz : ∀ D, D ∈ E.defs → D.body.sz ≤ 120) (ha : VN u a) (hz : npr (oc u a) ≤ 100000) (hroom : u.1 29 + (2 * npr (oc u a) + 1) ≤ 160000) (hpb : PrB E (Ob.toList (Ob.rgt (Ob.rgt (oc u a)))))
    (hA : ∀ v, CG f8Un f8Ur u v → RdE v E → v.1 29 ≤ u.1 29 + (2 * npr (oc u a) + 1) → Sp.isForm E (oc u a) = false → A v) (hB : ∀ v, CG f8Un f8Ur u v → RdE v E → v.1 29 ≤ u.1 29 + (2 * own (oc u a) + 1) → Sp.isForm E (oc u a) = true → B v) : pv_3_isFormed a (fun v3 u => br (v3 = 0) (A u) (pv_3_isWholeFormed a (fun v4 u => br (v4 ≠ 0) (B u) (A u)) u)) u := by
  have np := npr_pos (oc u a)
  refine pc_isFormed hR ha hz (by omega) (fun f r v vf ef gv hv v29 hr => ?_)
  have fe : Sp.isForm E (oc u a) = (FrW E (oc u a) f && WhW E (oc u a)) := form_eq (fun c s h0 h4 hs => by
    have := katC hR.1 c h0 h4 hs vf.1 vf.2
    rw [ef] at this
    exact this)
  have cs3 := csI_mono (oc u a) (tcN f) 3
  have cs4 := csI_3 (oc u a)
  have tcb : tcN f ≤ 3 := tcN_le f
  have wb := whC_le (oc u a)
  have gU : CG f8Un f8Ur u v := gv.mono f8B_U f8W_U
  refine ⟨fun z => hA v gU hv (by have := cs3 tcb; omega) (by rw [fe, hr.f z]; rfl), fun z => ?_⟩
  have ht := hr.t z
  rw [ht, Bool.true_and] at fe
  have eo : oc v a = oc u a := gv.oc hR.1 ha.1 ha.2
  refine pc_isWhole hv (hTo.mono hR.1 gU (gU.2.2.1 1 (by decide)) (fun k h1 h2 => gU.2.2.2 k (by unfold f8Ur; simp only [Bool.or_eq_false_iff, decide_eq_false_iff_not]; omega)) (gU.2.2.2 50 (by decide))) hDn hDw hDz (ha.up gv) (by rw [eo]; exact hz) (by rw [eo]; have := cs3 tcb; omega) (by rw [eo]; exact FrW_len ht) (by rw [eo]; exact hpb) (fun r2 w gw hw w29 h2 => ?_)
  rw [eo] at w29 h2
  have fc := (form_cost (E := E) (fun c s h0 h4 hs => by
    have := katC hR.1 c h0 h4 hs vf.1 vf.2
    rw [ef] at this
    exact this) ht).1
  refine ⟨fun q => hB w (gU.tr gw) hw (by omega) (by rw [fe]; exact h2.t q), fun q => hA w (gU.tr gw) hw (by have := cs3 tcb; omega) (by rw [fe]; exact h2.f (Decidable.not_not.mp q))⟩
