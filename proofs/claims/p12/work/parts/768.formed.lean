-- deps: 767
/-! the class: whether a PROOF is formed as told -/
theorem pc_isListOfTerms [DecidableEq Ob] {a : Int} {Q : Int → iST → Prop} {u : iST} {E : Sp.Env} (hR : RdE u E) (ha : VN u a) (hz : npr (oc u a) ≤ 100000) (hroom : u.1 29 + npr (oc u a) ≤ 160000)
    (hq : ∀ r v, CG f8B f8W u v → RdE v E → v.1 29 ≤ u.1 29 + npr (oc u a) → bq r (Ob.len (oc u a) != -1 && (Ob.toList (oc u a)).all (fun x => (Ob.rdT (Sp.arOf E) x).isSome)) → Q r v) : pv_3_isListOfTerms a Q u := by
  have go : ∀ (y0 : Int) (b0 : Bool), (y0 ≠ 0 ↔ b0 = true) → b0 = (Ob.len (oc u a) != -1) → pv_3_isListOfTerms_17 Q a y0 u := by
    intro y0 b0 h0 e0
    unfold pv_3_isListOfTerms_17
    refine pv_3_isListOfTerms_20_i (fun x2 x3 y => ∃ b : Bool, (x2 ≠ 0 ↔ b = true) ∧ CG f8B f8W u y ∧ RdE y E ∧ VN y x3 ∧ y.1 29 + npr (oc y x3) ≤ u.1 29 + npr (oc u a) ∧ npr (oc y x3) ≤ npr (oc u a) ∧ (b && (Ob.toList (oc y x3)).all (fun x => (Ob.rdT (Sp.arOf E) x).isSome)) = (Ob.len (oc u a) != -1 && (Ob.toList (oc u a)).all (fun x => (Ob.rdT (Sp.arOf E) x).isSome))) ?_ ⟨b0, h0, CG.rf hR.1, hR, ha, Int.le_refl _, Int.le_refl _, by rw [e0]⟩
    rintro x2 x3 y ⟨b, hb, gy, hy, vx, h29, hle, hw⟩
    have np := npr_pos (oc y x3)
    have bqx : ∀ c : Bool, b = c → bq x2 c := fun c hc => by
      rw [← hc]
      exact ⟨fun q => bf_of (fun t => (hb.mpr t) q), fun q => Decidable.not_not.mp (fun t => by have := hb.mp t; rw [q] at this; cases this)⟩
    unfold pv_3_isListOfTerms_20b
    refine pc_isPair hy.1 vx (fun r hr => ⟨fun z _ => ?_, fun z => ⟨fun z2 _ => ?_, fun z2 => ?_⟩⟩)
    · have hno := hr.f z
      have et : Ob.toList (oc y x3) = [] := by
        cases e : oc y x3 with
        | op p l => rw [e] at hno; cases hno
        | var w => rfl
      rw [et] at hw
      refine hq x2 y gy hy (by omega) (bqx _ ?_)
      rw [← hw]
      exact (Bool.and_true b).symm
    · have hb0 : b = false := bf_of (fun q => absurd z2 (hb.mpr q))
      refine hq x2 y gy hy (by omega) (bqx _ ?_)
      rw [← hw, hb0]
      rfl
    have hb1 := hb.mp z2
    have hpr := hr.t z
    cases e : oc y x3 with
    | var w => rw [e] at hpr; cases hpr
    | op p l =>
      rw [e] at h29 hle hw
      have h29 : y.1 29 + (1 + npr p + npr l) ≤ u.1 29 + npr (oc u a) := h29
      have hle : 1 + npr p + npr l ≤ npr (oc u a) := hle
      have hw : (b && ((Ob.rdT (Sp.arOf E) p).isSome && (Ob.toList l).all (fun x => (Ob.rdT (Sp.arOf E) x).isSome))) = _ := hw
      have nl := npr_pos l
      have np' := npr_pos p
      refine pc_left hy.1 vx (fun v3 vv3 e3 => ?_)
      rw [e] at e3
      have e3 : oc y v3 = p := e3
      refine pc_readE hy vv3 (by rw [e3]; omega) (by rw [e3]; omega) (fun t w gw hw' w29 hor => ?_)
      rw [e3] at w29 hor
      have next : ∀ (y1 : Int) (b1 : Bool), (y1 ≠ 0 ↔ b1 = true) → b1 = (Ob.rdT (Sp.arOf E) p).isSome → pv_3_isListOfTerms_60 (fun x2 x3 y => ∃ b : Bool, (x2 ≠ 0 ↔ b = true) ∧ CG f8B f8W u y ∧ RdE y E ∧ VN y x3 ∧ y.1 29 + npr (oc y x3) ≤ u.1 29 + npr (oc u a) ∧ npr (oc y x3) ≤ npr (oc u a) ∧ (b && (Ob.toList (oc y x3)).all (fun x => (Ob.rdT (Sp.arOf E) x).isSome)) = (Ob.len (oc u a) != -1 && (Ob.toList (oc u a)).all (fun x => (Ob.rdT (Sp.arOf E) x).isSome))) Q x3 y1 w := by
        intro y1 b1 h1 e1
        unfold pv_3_isListOfTerms_60
        refine pc_right gw.1 (vx.up gw) (fun t2 vt2 et2 => ?_)
        rw [gw.oc hy.1 vx.1 vx.2, e] at et2
        have et2 : oc w t2 = l := et2
        refine ⟨b1, h1, gy.tr gw, hw', vt2, by rw [et2]; omega, by rw [et2]; omega, ?_⟩
        rw [et2, e1, ← hw, hb1]
        rfl
      rcases hor with ⟨q1, q2⟩ | ⟨q1, q2⟩
      · exact ⟨fun _ => next 0 false ⟨fun q => absurd rfl q, fun q => by cases q⟩ (by rw [q2]; rfl), fun q => absurd q1 q⟩
      · exact ⟨fun q => by have := q1.1.1; omega, fun _ => next 1 true ⟨fun _ => rfl, fun _ => by decide⟩ (by rw [q2]; rfl)⟩
  unfold pv_3_isListOfTerms
  refine pc_lengthOf hR.1 ha ?_
  refine ⟨fun z => go 0 false ⟨fun q => absurd rfl q, fun q => by cases q⟩ ?_, fun z => go 1 true ⟨fun _ => rfl, fun _ => by decide⟩ ?_⟩
  · rw [z]; rfl
  · exact (bne_iff_ne.mpr z).symm
theorem pc_isInductionF [DecidableEq Ob] {a : Int} {Q : Int → iST → Prop} {u : iST} {E : Sp.Env} (hR : RdE u E) (hDw : Sp.DWf E) (hDz : ∀ D, D ∈ E.defs → D.body.sz ≤ 120) (ha : VN u a)
    (hq : ∀ r v, CG f8h f8g u v → v.2.2 = u.2.2 → bq r (Sp.indAsk E (Ob.item (oc u a) 2) == 0 && (match E.dfn (Ob.lft (Ob.item (oc u a) 2)) with | some D => Ob.len (oc u a) == 3 + ((Sp.paths D.body).length : Int) | none => false)) → Q r v) : pv_3_isInduction a Q u := by
  have hT := hR.1
  unfold pv_3_isInduction
  refine pc_item hT ha (by decide) (fun v1 vv1 e1 => ?_)
  have e1 : oc u v1 = Ob.item (oc u a) 2 := e1
  refine pc_inductionAsked hT hR.2.1 vv1 ?_
  rw [e1]
  refine ⟨fun z => ?_, fun z _ => hq 0 u (CG.rf hT) rfl (bq0 ?_)⟩
  rotate_left
  · rw [show (Sp.indAsk E (Ob.item (oc u a) 2) == 0) = false from bf_of (fun q => z (beq_iff_eq.mp q))]
    rfl
  rw [show (Sp.indAsk E (Ob.item (oc u a) 2) == 0) = true from beq_iff_eq.mpr z, Bool.true_and] at hq
  refine pc_left hT vv1 (fun v3 vv3 e3 => ?_)
  rw [e1] at e3
  refine pc_functionOf hT hR.2.1 vv3 (fun hno => ?_) (fun d d0 d1 ed hd => ?_)
  · rw [e3] at hno
    rw [hno] at hq
    refine pc_lengthOf hT ha ?_
    intro _ _ v6 e6 _ _
    exact ⟨fun _ _ => hq 0 u (CG.rf hT) rfl (bq0 rfl), fun q => absurd rfl q⟩
  rw [e3] at hd
  rw [hd] at hq
  refine pc_lengthOf hT ha ?_
  intro _ _ v6 e6 _ _
  refine ⟨fun q => by omega, fun _ => ?_⟩
  intro _ _ v8 e8 _
  rw [e8]
  have hm := (dfn_mem hd).1
  refine pc_countPaths hT (arOf_ifS E) (hR.2.1.2.2 d d0 d1).2.2.2.1 (hDw _ hm).1 (hDz _ hm) (fun v gv vc => ?_)
  have e6 : v6 = 3 := e6
  have hq : ∀ r v, CG f8h f8g u v → v.2.2 = u.2.2 → bq r (Ob.len (oc u a) == 3 + ((Sp.paths (oc u (u.2.1 3 d))).length : Int)) → Q r v := hq
  refine ⟨fun q _ => hq 0 v gv vc (bq0 (bf_of (fun q2 => q ?_))), fun q _ => hq 1 v gv vc (bq1 (beq_iff_eq.mpr ?_))⟩
  · have := beq_iff_eq.mp q2
    omega
  · have := Decidable.not_not.mp q
    omega
/-- name, length and terms -/
def FrW [DecidableEq Ob] (E : Sp.Env) (o : Ob) (f : Int) : Bool := decide (28 ≤ f ∧ f ≤ 43) && (decide (yT_LENGTHS.getD (f - 28).toNat 0 ≤ Ob.len o) && (decide (Ob.len o ≤ yT_LENGTHS.getD (f - 28).toNat 0) || decide (f = 40 ∨ f = 43)) && Sp.termsAt E o (yT_TERM_COUNTS.getD (f - 28).toNat 0).toNat)
/-- what else is told -/
def WhW [DecidableEq Ob] (E : Sp.Env) (o : Ob) : Bool :=
  if Ob.lft o = Ob.value then (match (match Sp.rdAt E o 1 with | some L => Sp.toldV L | none => none) with | some _ => true | none => false)
  else if Ob.lft o = Ob.defS then (E.dfn (Ob.item o 1)).isSome else if Ob.lft o = Ob.thm then (E.thmOf (Ob.item o 1)).isSome
  else if Ob.lft o = Ob.weak then Ob.len (Ob.item o 1) != -1 && (Ob.toList (Ob.item o 1)).all (fun x => (Ob.rdT (Sp.arOf E) x).isSome)
  else if Ob.lft o = Ob.inst then (Sp.pairsOf E (Ob.rgt (Ob.rgt o))).isSome
  else if Ob.lft o = Ob.induct then Sp.indAsk E (Ob.item o 2) == 0 && (match E.dfn (Ob.lft (Ob.item o 2)) with | some D => Ob.len o == 3 + ((Sp.paths D.body).length : Int) | none => false)
  else true
theorem WhW_taut [DecidableEq Ob] {E : Sp.Env} {o : Ob} (h : Ob.lft o = Ob.taut) : WhW E o = true := by
  unfold WhW
  rw [if_neg (show ¬ Ob.lft o = Ob.value from fun q => absurd (h.symm.trans q) (show Ob.taut ≠ Ob.value from Ob.sym_ne (by decide))), if_neg (show ¬ Ob.lft o = Ob.defS from fun q => absurd (h.symm.trans q) (show Ob.taut ≠ Ob.defS from Ob.sym_ne (by decide))), if_neg (show ¬ Ob.lft o = Ob.thm from fun q => absurd (h.symm.trans q) (show Ob.taut ≠ Ob.thm from Ob.sym_ne (by decide))), if_neg (show ¬ Ob.lft o = Ob.weak from fun q => absurd (h.symm.trans q) (show Ob.taut ≠ Ob.weak from Ob.sym_ne (by decide))), if_neg (show ¬ Ob.lft o = Ob.inst from fun q => absurd (h.symm.trans q) (show Ob.taut ≠ Ob.inst from Ob.sym_ne (by decide))), if_neg (show ¬ Ob.lft o = Ob.induct from fun q => absurd (h.symm.trans q) (show Ob.taut ≠ Ob.induct from Ob.sym_ne (by decide)))]
theorem WhW_same [DecidableEq Ob] {E : Sp.Env} {o : Ob} (h : Ob.lft o = Ob.same) : WhW E o = true := by
  unfold WhW
  rw [if_neg (show ¬ Ob.lft o = Ob.value from fun q => absurd (h.symm.trans q) (show Ob.same ≠ Ob.value from Ob.sym_ne (by decide))), if_neg (show ¬ Ob.lft o = Ob.defS from fun q => absurd (h.symm.trans q) (show Ob.same ≠ Ob.defS from Ob.sym_ne (by decide))), if_neg (show ¬ Ob.lft o = Ob.thm from fun q => absurd (h.symm.trans q) (show Ob.same ≠ Ob.thm from Ob.sym_ne (by decide))), if_neg (show ¬ Ob.lft o = Ob.weak from fun q => absurd (h.symm.trans q) (show Ob.same ≠ Ob.weak from Ob.sym_ne (by decide))), if_neg (show ¬ Ob.lft o = Ob.inst from fun q => absurd (h.symm.trans q) (show Ob.same ≠ Ob.inst from Ob.sym_ne (by decide))), if_neg (show ¬ Ob.lft o = Ob.induct from fun q => absurd (h.symm.trans q) (show Ob.same ≠ Ob.induct from Ob.sym_ne (by decide)))]
theorem WhW_value [DecidableEq Ob] {E : Sp.Env} {o : Ob} (h : Ob.lft o = Ob.value) : WhW E o = (match (match Sp.rdAt E o 1 with | some L => Sp.toldV L | none => none) with | some _ => true | none => false) := by
  unfold WhW
  rw [if_pos h]
theorem WhW_first [DecidableEq Ob] {E : Sp.Env} {o : Ob} (h : Ob.lft o = Ob.first) : WhW E o = true := by
  unfold WhW
  rw [if_neg (show ¬ Ob.lft o = Ob.value from fun q => absurd (h.symm.trans q) (show Ob.first ≠ Ob.value from Ob.sym_ne (by decide))), if_neg (show ¬ Ob.lft o = Ob.defS from fun q => absurd (h.symm.trans q) (show Ob.first ≠ Ob.defS from Ob.sym_ne (by decide))), if_neg (show ¬ Ob.lft o = Ob.thm from fun q => absurd (h.symm.trans q) (show Ob.first ≠ Ob.thm from Ob.sym_ne (by decide))), if_neg (show ¬ Ob.lft o = Ob.weak from fun q => absurd (h.symm.trans q) (show Ob.first ≠ Ob.weak from Ob.sym_ne (by decide))), if_neg (show ¬ Ob.lft o = Ob.inst from fun q => absurd (h.symm.trans q) (show Ob.first ≠ Ob.inst from Ob.sym_ne (by decide))), if_neg (show ¬ Ob.lft o = Ob.induct from fun q => absurd (h.symm.trans q) (show Ob.first ≠ Ob.induct from Ob.sym_ne (by decide)))]
theorem WhW_second [DecidableEq Ob] {E : Sp.Env} {o : Ob} (h : Ob.lft o = Ob.second) : WhW E o = true := by
  unfold WhW
  rw [if_neg (show ¬ Ob.lft o = Ob.value from fun q => absurd (h.symm.trans q) (show Ob.second ≠ Ob.value from Ob.sym_ne (by decide))), if_neg (show ¬ Ob.lft o = Ob.defS from fun q => absurd (h.symm.trans q) (show Ob.second ≠ Ob.defS from Ob.sym_ne (by decide))), if_neg (show ¬ Ob.lft o = Ob.thm from fun q => absurd (h.symm.trans q) (show Ob.second ≠ Ob.thm from Ob.sym_ne (by decide))), if_neg (show ¬ Ob.lft o = Ob.weak from fun q => absurd (h.symm.trans q) (show Ob.second ≠ Ob.weak from Ob.sym_ne (by decide))), if_neg (show ¬ Ob.lft o = Ob.inst from fun q => absurd (h.symm.trans q) (show Ob.second ≠ Ob.inst from Ob.sym_ne (by decide))), if_neg (show ¬ Ob.lft o = Ob.induct from fun q => absurd (h.symm.trans q) (show Ob.second ≠ Ob.induct from Ob.sym_ne (by decide)))]
theorem WhW_pair [DecidableEq Ob] {E : Sp.Env} {o : Ob} (h : Ob.lft o = Ob.pair) : WhW E o = true := by
  unfold WhW
  rw [if_neg (show ¬ Ob.lft o = Ob.value from fun q => absurd (h.symm.trans q) (show Ob.pair ≠ Ob.value from Ob.sym_ne (by decide))), if_neg (show ¬ Ob.lft o = Ob.defS from fun q => absurd (h.symm.trans q) (show Ob.pair ≠ Ob.defS from Ob.sym_ne (by decide))), if_neg (show ¬ Ob.lft o = Ob.thm from fun q => absurd (h.symm.trans q) (show Ob.pair ≠ Ob.thm from Ob.sym_ne (by decide))), if_neg (show ¬ Ob.lft o = Ob.weak from fun q => absurd (h.symm.trans q) (show Ob.pair ≠ Ob.weak from Ob.sym_ne (by decide))), if_neg (show ¬ Ob.lft o = Ob.inst from fun q => absurd (h.symm.trans q) (show Ob.pair ≠ Ob.inst from Ob.sym_ne (by decide))), if_neg (show ¬ Ob.lft o = Ob.induct from fun q => absurd (h.symm.trans q) (show Ob.pair ≠ Ob.induct from Ob.sym_ne (by decide)))]
theorem WhW_yes [DecidableEq Ob] {E : Sp.Env} {o : Ob} (h : Ob.lft o = Ob.yes) : WhW E o = true := by
  unfold WhW
  rw [if_neg (show ¬ Ob.lft o = Ob.value from fun q => absurd (h.symm.trans q) (show Ob.yes ≠ Ob.value from Ob.sym_ne (by decide))), if_neg (show ¬ Ob.lft o = Ob.defS from fun q => absurd (h.symm.trans q) (show Ob.yes ≠ Ob.defS from Ob.sym_ne (by decide))), if_neg (show ¬ Ob.lft o = Ob.thm from fun q => absurd (h.symm.trans q) (show Ob.yes ≠ Ob.thm from Ob.sym_ne (by decide))), if_neg (show ¬ Ob.lft o = Ob.weak from fun q => absurd (h.symm.trans q) (show Ob.yes ≠ Ob.weak from Ob.sym_ne (by decide))), if_neg (show ¬ Ob.lft o = Ob.inst from fun q => absurd (h.symm.trans q) (show Ob.yes ≠ Ob.inst from Ob.sym_ne (by decide))), if_neg (show ¬ Ob.lft o = Ob.induct from fun q => absurd (h.symm.trans q) (show Ob.yes ≠ Ob.induct from Ob.sym_ne (by decide)))]
theorem WhW_no [DecidableEq Ob] {E : Sp.Env} {o : Ob} (h : Ob.lft o = Ob.no) : WhW E o = true := by
  unfold WhW
  rw [if_neg (show ¬ Ob.lft o = Ob.value from fun q => absurd (h.symm.trans q) (show Ob.no ≠ Ob.value from Ob.sym_ne (by decide))), if_neg (show ¬ Ob.lft o = Ob.defS from fun q => absurd (h.symm.trans q) (show Ob.no ≠ Ob.defS from Ob.sym_ne (by decide))), if_neg (show ¬ Ob.lft o = Ob.thm from fun q => absurd (h.symm.trans q) (show Ob.no ≠ Ob.thm from Ob.sym_ne (by decide))), if_neg (show ¬ Ob.lft o = Ob.weak from fun q => absurd (h.symm.trans q) (show Ob.no ≠ Ob.weak from Ob.sym_ne (by decide))), if_neg (show ¬ Ob.lft o = Ob.inst from fun q => absurd (h.symm.trans q) (show Ob.no ≠ Ob.inst from Ob.sym_ne (by decide))), if_neg (show ¬ Ob.lft o = Ob.induct from fun q => absurd (h.symm.trans q) (show Ob.no ≠ Ob.induct from Ob.sym_ne (by decide)))]
theorem WhW_defS [DecidableEq Ob] {E : Sp.Env} {o : Ob} (h : Ob.lft o = Ob.defS) : WhW E o = (E.dfn (Ob.item o 1)).isSome := by
  unfold WhW
  rw [if_neg (show ¬ Ob.lft o = Ob.value from fun q => absurd (h.symm.trans q) (show Ob.defS ≠ Ob.value from Ob.sym_ne (by decide))), if_pos h]
theorem WhW_thm [DecidableEq Ob] {E : Sp.Env} {o : Ob} (h : Ob.lft o = Ob.thm) : WhW E o = (E.thmOf (Ob.item o 1)).isSome := by
  unfold WhW
  rw [if_neg (show ¬ Ob.lft o = Ob.value from fun q => absurd (h.symm.trans q) (show Ob.thm ≠ Ob.value from Ob.sym_ne (by decide))), if_neg (show ¬ Ob.lft o = Ob.defS from fun q => absurd (h.symm.trans q) (show Ob.thm ≠ Ob.defS from Ob.sym_ne (by decide))), if_pos h]
theorem WhW_weak [DecidableEq Ob] {E : Sp.Env} {o : Ob} (h : Ob.lft o = Ob.weak) : WhW E o = (Ob.len (Ob.item o 1) != -1 && (Ob.toList (Ob.item o 1)).all (fun x => (Ob.rdT (Sp.arOf E) x).isSome)) := by
  unfold WhW
  rw [if_neg (show ¬ Ob.lft o = Ob.value from fun q => absurd (h.symm.trans q) (show Ob.weak ≠ Ob.value from Ob.sym_ne (by decide))), if_neg (show ¬ Ob.lft o = Ob.defS from fun q => absurd (h.symm.trans q) (show Ob.weak ≠ Ob.defS from Ob.sym_ne (by decide))), if_neg (show ¬ Ob.lft o = Ob.thm from fun q => absurd (h.symm.trans q) (show Ob.weak ≠ Ob.thm from Ob.sym_ne (by decide))), if_pos h]
theorem WhW_cut [DecidableEq Ob] {E : Sp.Env} {o : Ob} (h : Ob.lft o = Ob.cut) : WhW E o = true := by
  unfold WhW
  rw [if_neg (show ¬ Ob.lft o = Ob.value from fun q => absurd (h.symm.trans q) (show Ob.cut ≠ Ob.value from Ob.sym_ne (by decide))), if_neg (show ¬ Ob.lft o = Ob.defS from fun q => absurd (h.symm.trans q) (show Ob.cut ≠ Ob.defS from Ob.sym_ne (by decide))), if_neg (show ¬ Ob.lft o = Ob.thm from fun q => absurd (h.symm.trans q) (show Ob.cut ≠ Ob.thm from Ob.sym_ne (by decide))), if_neg (show ¬ Ob.lft o = Ob.weak from fun q => absurd (h.symm.trans q) (show Ob.cut ≠ Ob.weak from Ob.sym_ne (by decide))), if_neg (show ¬ Ob.lft o = Ob.inst from fun q => absurd (h.symm.trans q) (show Ob.cut ≠ Ob.inst from Ob.sym_ne (by decide))), if_neg (show ¬ Ob.lft o = Ob.induct from fun q => absurd (h.symm.trans q) (show Ob.cut ≠ Ob.induct from Ob.sym_ne (by decide)))]
theorem WhW_inst [DecidableEq Ob] {E : Sp.Env} {o : Ob} (h : Ob.lft o = Ob.inst) : WhW E o = (Sp.pairsOf E (Ob.rgt (Ob.rgt o))).isSome := by
  unfold WhW
  rw [if_neg (show ¬ Ob.lft o = Ob.value from fun q => absurd (h.symm.trans q) (show Ob.inst ≠ Ob.value from Ob.sym_ne (by decide))), if_neg (show ¬ Ob.lft o = Ob.defS from fun q => absurd (h.symm.trans q) (show Ob.inst ≠ Ob.defS from Ob.sym_ne (by decide))), if_neg (show ¬ Ob.lft o = Ob.thm from fun q => absurd (h.symm.trans q) (show Ob.inst ≠ Ob.thm from Ob.sym_ne (by decide))), if_neg (show ¬ Ob.lft o = Ob.weak from fun q => absurd (h.symm.trans q) (show Ob.inst ≠ Ob.weak from Ob.sym_ne (by decide))), if_pos h]
theorem WhW_swap [DecidableEq Ob] {E : Sp.Env} {o : Ob} (h : Ob.lft o = Ob.swap) : WhW E o = true := by
  unfold WhW
  rw [if_neg (show ¬ Ob.lft o = Ob.value from fun q => absurd (h.symm.trans q) (show Ob.swap ≠ Ob.value from Ob.sym_ne (by decide))), if_neg (show ¬ Ob.lft o = Ob.defS from fun q => absurd (h.symm.trans q) (show Ob.swap ≠ Ob.defS from Ob.sym_ne (by decide))), if_neg (show ¬ Ob.lft o = Ob.thm from fun q => absurd (h.symm.trans q) (show Ob.swap ≠ Ob.thm from Ob.sym_ne (by decide))), if_neg (show ¬ Ob.lft o = Ob.weak from fun q => absurd (h.symm.trans q) (show Ob.swap ≠ Ob.weak from Ob.sym_ne (by decide))), if_neg (show ¬ Ob.lft o = Ob.inst from fun q => absurd (h.symm.trans q) (show Ob.swap ≠ Ob.inst from Ob.sym_ne (by decide))), if_neg (show ¬ Ob.lft o = Ob.induct from fun q => absurd (h.symm.trans q) (show Ob.swap ≠ Ob.induct from Ob.sym_ne (by decide)))]
theorem WhW_put [DecidableEq Ob] {E : Sp.Env} {o : Ob} (h : Ob.lft o = Ob.put) : WhW E o = true := by
  unfold WhW
  rw [if_neg (show ¬ Ob.lft o = Ob.value from fun q => absurd (h.symm.trans q) (show Ob.put ≠ Ob.value from Ob.sym_ne (by decide))), if_neg (show ¬ Ob.lft o = Ob.defS from fun q => absurd (h.symm.trans q) (show Ob.put ≠ Ob.defS from Ob.sym_ne (by decide))), if_neg (show ¬ Ob.lft o = Ob.thm from fun q => absurd (h.symm.trans q) (show Ob.put ≠ Ob.thm from Ob.sym_ne (by decide))), if_neg (show ¬ Ob.lft o = Ob.weak from fun q => absurd (h.symm.trans q) (show Ob.put ≠ Ob.weak from Ob.sym_ne (by decide))), if_neg (show ¬ Ob.lft o = Ob.inst from fun q => absurd (h.symm.trans q) (show Ob.put ≠ Ob.inst from Ob.sym_ne (by decide))), if_neg (show ¬ Ob.lft o = Ob.induct from fun q => absurd (h.symm.trans q) (show Ob.put ≠ Ob.induct from Ob.sym_ne (by decide)))]
theorem WhW_induct [DecidableEq Ob] {E : Sp.Env} {o : Ob} (h : Ob.lft o = Ob.induct) : WhW E o = (Sp.indAsk E (Ob.item o 2) == 0 && (match E.dfn (Ob.lft (Ob.item o 2)) with | some D => Ob.len o == 3 + ((Sp.paths D.body).length : Int) | none => false)) := by
  unfold WhW
  rw [if_neg (show ¬ Ob.lft o = Ob.value from fun q => absurd (h.symm.trans q) (show Ob.induct ≠ Ob.value from Ob.sym_ne (by decide))), if_neg (show ¬ Ob.lft o = Ob.defS from fun q => absurd (h.symm.trans q) (show Ob.induct ≠ Ob.defS from Ob.sym_ne (by decide))), if_neg (show ¬ Ob.lft o = Ob.thm from fun q => absurd (h.symm.trans q) (show Ob.induct ≠ Ob.thm from Ob.sym_ne (by decide))), if_neg (show ¬ Ob.lft o = Ob.weak from fun q => absurd (h.symm.trans q) (show Ob.induct ≠ Ob.weak from Ob.sym_ne (by decide))), if_neg (show ¬ Ob.lft o = Ob.inst from fun q => absurd (h.symm.trans q) (show Ob.induct ≠ Ob.inst from Ob.sym_ne (by decide))), if_pos h]
theorem len_eq [DecidableEq Ob] (n m : Int) : (decide (m ≤ n) && (decide (n ≤ m) || false)) = (n == m) := by
  rw [Bool.or_false, beq_dec]
  by_cases c : n = m
  · rw [c, decide_eq_true (Int.le_refl _), decide_eq_true rfl]; rfl
  · rw [decide_eq_false c]
    by_cases d : m ≤ n
    · rw [decide_eq_false (show ¬ n ≤ m by omega), Bool.and_false]
    · rw [decide_eq_false d]; rfl
theorem termsAt_0 [DecidableEq Ob] (E : Sp.Env) (o : Ob) : Sp.termsAt E o 0 = true := rfl
theorem termsAt_1 [DecidableEq Ob] (E : Sp.Env) (o : Ob) : Sp.termsAt E o 1 = (Sp.rdAt E o 1).isSome := by
  show ((Sp.rdAt E o (0 + 1)).isSome && true) = _
  rw [Bool.and_true]
theorem FrW_taut [DecidableEq Ob] (E : Sp.Env) (o : Ob) : FrW E o 28 = (Ob.len o == 2 && Sp.termsAt E o 1) := by
  show (true && (decide ((2 : Int) ≤ Ob.len o) && (decide (Ob.len o ≤ 2) || false) && Sp.termsAt E o 1)) = _
  rw [len_eq, Bool.true_and]
theorem FrW_same [DecidableEq Ob] (E : Sp.Env) (o : Ob) : FrW E o 29 = (Ob.len o == 2 && Sp.termsAt E o 1) := by
  show (true && (decide ((2 : Int) ≤ Ob.len o) && (decide (Ob.len o ≤ 2) || false) && Sp.termsAt E o 1)) = _
  rw [len_eq, Bool.true_and]
theorem FrW_value [DecidableEq Ob] (E : Sp.Env) (o : Ob) : FrW E o 30 = (Ob.len o == 2 && Sp.termsAt E o 1) := by
  show (true && (decide ((2 : Int) ≤ Ob.len o) && (decide (Ob.len o ≤ 2) || false) && Sp.termsAt E o 1)) = _
  rw [len_eq, Bool.true_and]
theorem FrW_first [DecidableEq Ob] (E : Sp.Env) (o : Ob) : FrW E o 31 = (Ob.len o == 3 && Sp.termsAt E o 2) := by
  show (true && (decide ((3 : Int) ≤ Ob.len o) && (decide (Ob.len o ≤ 3) || false) && Sp.termsAt E o 2)) = _
  rw [len_eq, Bool.true_and]
theorem FrW_second [DecidableEq Ob] (E : Sp.Env) (o : Ob) : FrW E o 32 = (Ob.len o == 3 && Sp.termsAt E o 2) := by
  show (true && (decide ((3 : Int) ≤ Ob.len o) && (decide (Ob.len o ≤ 3) || false) && Sp.termsAt E o 2)) = _
  rw [len_eq, Bool.true_and]
theorem FrW_pair [DecidableEq Ob] (E : Sp.Env) (o : Ob) : FrW E o 33 = (Ob.len o == 3 && Sp.termsAt E o 2) := by
  show (true && (decide ((3 : Int) ≤ Ob.len o) && (decide (Ob.len o ≤ 3) || false) && Sp.termsAt E o 2)) = _
  rw [len_eq, Bool.true_and]
theorem FrW_yes [DecidableEq Ob] (E : Sp.Env) (o : Ob) : FrW E o 34 = (Ob.len o == 4 && Sp.termsAt E o 3) := by
  show (true && (decide ((4 : Int) ≤ Ob.len o) && (decide (Ob.len o ≤ 4) || false) && Sp.termsAt E o 3)) = _
  rw [len_eq, Bool.true_and]
theorem FrW_no [DecidableEq Ob] (E : Sp.Env) (o : Ob) : FrW E o 35 = (Ob.len o == 4 && Sp.termsAt E o 3) := by
  show (true && (decide ((4 : Int) ≤ Ob.len o) && (decide (Ob.len o ≤ 4) || false) && Sp.termsAt E o 3)) = _
  rw [len_eq, Bool.true_and]
theorem FrW_defS [DecidableEq Ob] (E : Sp.Env) (o : Ob) : FrW E o 36 = (Ob.len o == 2 && Sp.termsAt E o 0) := by
  show (true && (decide ((2 : Int) ≤ Ob.len o) && (decide (Ob.len o ≤ 2) || false) && Sp.termsAt E o 0)) = _
  rw [len_eq, Bool.true_and]
theorem FrW_thm [DecidableEq Ob] (E : Sp.Env) (o : Ob) : FrW E o 37 = (Ob.len o == 2 && Sp.termsAt E o 0) := by
  show (true && (decide ((2 : Int) ≤ Ob.len o) && (decide (Ob.len o ≤ 2) || false) && Sp.termsAt E o 0)) = _
  rw [len_eq, Bool.true_and]
theorem FrW_weak [DecidableEq Ob] (E : Sp.Env) (o : Ob) : FrW E o 38 = (Ob.len o == 3 && Sp.termsAt E o 0) := by
  show (true && (decide ((3 : Int) ≤ Ob.len o) && (decide (Ob.len o ≤ 3) || false) && Sp.termsAt E o 0)) = _
  rw [len_eq, Bool.true_and]
theorem FrW_cut [DecidableEq Ob] (E : Sp.Env) (o : Ob) : FrW E o 39 = (Ob.len o == 4 && Sp.termsAt E o 1) := by
  show (true && (decide ((4 : Int) ≤ Ob.len o) && (decide (Ob.len o ≤ 4) || false) && Sp.termsAt E o 1)) = _
  rw [len_eq, Bool.true_and]
theorem FrW_inst [DecidableEq Ob] (E : Sp.Env) (o : Ob) : FrW E o 40 = (decide ((2 : Int) ≤ Ob.len o) && Sp.termsAt E o 0) := by
  show (true && (decide ((2 : Int) ≤ Ob.len o) && (decide (Ob.len o ≤ 2) || true) && Sp.termsAt E o 0)) = _
  rw [Bool.or_true, Bool.and_true, Bool.true_and]
theorem FrW_swap [DecidableEq Ob] (E : Sp.Env) (o : Ob) : FrW E o 41 = (Ob.len o == 2 && Sp.termsAt E o 0) := by
  show (true && (decide ((2 : Int) ≤ Ob.len o) && (decide (Ob.len o ≤ 2) || false) && Sp.termsAt E o 0)) = _
  rw [len_eq, Bool.true_and]
theorem FrW_put [DecidableEq Ob] (E : Sp.Env) (o : Ob) : FrW E o 42 = (Ob.len o == 3 && Sp.termsAt E o 0) := by
  show (true && (decide ((3 : Int) ≤ Ob.len o) && (decide (Ob.len o ≤ 3) || false) && Sp.termsAt E o 0)) = _
  rw [len_eq, Bool.true_and]
theorem FrW_induct [DecidableEq Ob] (E : Sp.Env) (o : Ob) : FrW E o 43 = (decide ((3 : Int) ≤ Ob.len o) && Sp.termsAt E o 1) := by
  show (true && (decide ((3 : Int) ≤ Ob.len o) && (decide (Ob.len o ≤ 3) || true) && Sp.termsAt E o 1)) = _
  rw [Bool.or_true, Bool.and_true, Bool.true_and]
theorem form_eq [DecidableEq Ob] {E : Sp.Env} {o : Ob} {f : Int} (hf : ∀ (c : Int) (s : Ob), 0 ≤ c → c < 44 → Ob.knownC[c.toNat]? = some s → (f = c ↔ Ob.lft o = s)) : Sp.isForm E o = (FrW E o f && WhW E o) := by
  by_cases c28 : f = 28
  · have h := (hf 28 Ob.taut (by decide) (by decide) rfl).mp c28
    rw [isForm_taut h, WhW_taut h, c28, FrW_taut]
    rw [Bool.and_true]
  by_cases c29 : f = 29
  · have h := (hf 29 Ob.same (by decide) (by decide) rfl).mp c29
    rw [isForm_same h, WhW_same h, c29, FrW_same]
    rw [Bool.and_true]
  by_cases c30 : f = 30
  · have h := (hf 30 Ob.value (by decide) (by decide) rfl).mp c30
    rw [isForm_value h, WhW_value h, c30, FrW_value]
    rw [termsAt_1]
    cases Sp.rdAt E o 1 with
    | none => cases (Ob.len o == 2) <;> rfl
    | some L =>
      show (Ob.len o == 2 && (Sp.toldV L).isSome) = ((Ob.len o == 2 && true) && (match Sp.toldV L with | some _ => true | none => false))
      rw [Bool.and_true]
      cases Sp.toldV L <;> rfl
  by_cases c31 : f = 31
  · have h := (hf 31 Ob.first (by decide) (by decide) rfl).mp c31
    rw [isForm_first h, WhW_first h, c31, FrW_first]
    rw [Bool.and_true]
  by_cases c32 : f = 32
  · have h := (hf 32 Ob.second (by decide) (by decide) rfl).mp c32
    rw [isForm_second h, WhW_second h, c32, FrW_second]
    rw [Bool.and_true]
  by_cases c33 : f = 33
  · have h := (hf 33 Ob.pair (by decide) (by decide) rfl).mp c33
    rw [isForm_pair h, WhW_pair h, c33, FrW_pair]
    rw [Bool.and_true]
  by_cases c34 : f = 34
  · have h := (hf 34 Ob.yes (by decide) (by decide) rfl).mp c34
    rw [isForm_yes h, WhW_yes h, c34, FrW_yes]
    rw [Bool.and_true]
  by_cases c35 : f = 35
  · have h := (hf 35 Ob.no (by decide) (by decide) rfl).mp c35
    rw [isForm_no h, WhW_no h, c35, FrW_no]
    rw [Bool.and_true]
  by_cases c36 : f = 36
  · have h := (hf 36 Ob.defS (by decide) (by decide) rfl).mp c36
    rw [isForm_defS h, WhW_defS h, c36, FrW_defS]
    rw [termsAt_0, Bool.and_true]
  by_cases c37 : f = 37
  · have h := (hf 37 Ob.thm (by decide) (by decide) rfl).mp c37
    rw [isForm_thm h, WhW_thm h, c37, FrW_thm]
    rw [termsAt_0, Bool.and_true]
  by_cases c38 : f = 38
  · have h := (hf 38 Ob.weak (by decide) (by decide) rfl).mp c38
    rw [isForm_weak h, WhW_weak h, c38, FrW_weak]
    rw [termsAt_0, Bool.and_true, Bool.and_assoc]
  by_cases c39 : f = 39
  · have h := (hf 39 Ob.cut (by decide) (by decide) rfl).mp c39
    rw [isForm_cut h, WhW_cut h, c39, FrW_cut]
    rw [termsAt_1, Bool.and_true]
  by_cases c40 : f = 40
  · have h := (hf 40 Ob.inst (by decide) (by decide) rfl).mp c40
    rw [isForm_inst h, WhW_inst h, c40, FrW_inst]
    rw [termsAt_0, Bool.and_true]
  by_cases c41 : f = 41
  · have h := (hf 41 Ob.swap (by decide) (by decide) rfl).mp c41
    rw [isForm_swap h, WhW_swap h, c41, FrW_swap]
    rw [termsAt_0, Bool.and_true, Bool.and_true]
  by_cases c42 : f = 42
  · have h := (hf 42 Ob.put (by decide) (by decide) rfl).mp c42
    rw [isForm_put h, WhW_put h, c42, FrW_put]
    rw [termsAt_0, Bool.and_true, Bool.and_true]
  by_cases c43 : f = 43
  · have h := (hf 43 Ob.induct (by decide) (by decide) rfl).mp c43
    rw [isForm_induct h, WhW_induct h, c43, FrW_induct]
    rw [termsAt_1]
    simp only [Bool.and_assoc]
    rfl
  have m28 : ¬ Ob.lft o = Ob.taut := fun q => c28 ((hf 28 Ob.taut (by decide) (by decide) rfl).mpr q)
  have m29 : ¬ Ob.lft o = Ob.same := fun q => c29 ((hf 29 Ob.same (by decide) (by decide) rfl).mpr q)
  have m30 : ¬ Ob.lft o = Ob.value := fun q => c30 ((hf 30 Ob.value (by decide) (by decide) rfl).mpr q)
  have m31 : ¬ Ob.lft o = Ob.first := fun q => c31 ((hf 31 Ob.first (by decide) (by decide) rfl).mpr q)
  have m32 : ¬ Ob.lft o = Ob.second := fun q => c32 ((hf 32 Ob.second (by decide) (by decide) rfl).mpr q)
  have m33 : ¬ Ob.lft o = Ob.pair := fun q => c33 ((hf 33 Ob.pair (by decide) (by decide) rfl).mpr q)
  have m34 : ¬ Ob.lft o = Ob.yes := fun q => c34 ((hf 34 Ob.yes (by decide) (by decide) rfl).mpr q)
  have m35 : ¬ Ob.lft o = Ob.no := fun q => c35 ((hf 35 Ob.no (by decide) (by decide) rfl).mpr q)
  have m36 : ¬ Ob.lft o = Ob.defS := fun q => c36 ((hf 36 Ob.defS (by decide) (by decide) rfl).mpr q)
  have m37 : ¬ Ob.lft o = Ob.thm := fun q => c37 ((hf 37 Ob.thm (by decide) (by decide) rfl).mpr q)
  have m38 : ¬ Ob.lft o = Ob.weak := fun q => c38 ((hf 38 Ob.weak (by decide) (by decide) rfl).mpr q)
  have m39 : ¬ Ob.lft o = Ob.cut := fun q => c39 ((hf 39 Ob.cut (by decide) (by decide) rfl).mpr q)
  have m40 : ¬ Ob.lft o = Ob.inst := fun q => c40 ((hf 40 Ob.inst (by decide) (by decide) rfl).mpr q)
  have m41 : ¬ Ob.lft o = Ob.swap := fun q => c41 ((hf 41 Ob.swap (by decide) (by decide) rfl).mpr q)
  have m42 : ¬ Ob.lft o = Ob.put := fun q => c42 ((hf 42 Ob.put (by decide) (by decide) rfl).mpr q)
  have m43 : ¬ Ob.lft o = Ob.induct := fun q => c43 ((hf 43 Ob.induct (by decide) (by decide) rfl).mpr q)
  rw [isForm_else (fun q => q.elim m28 m29) m30 (fun q => q.elim m31 (fun q => q.elim m32 m33)) (fun q => q.elim m34 m35) m36 m37 m38 m39 m40 m41 m42 m43]
  unfold FrW
  rw [decide_eq_false (show ¬ (28 ≤ f ∧ f ≤ 43) by omega)]
  rfl
/-- nodes that reading the terms makes -/
def csI [DecidableEq Ob] (o : Ob) : Nat → Int | 0 => 0 | n + 1 => csI o n + npr (Ob.item o (n + 1))
theorem item_z [DecidableEq Ob] (o : Ob) : Ob.item o 0 = Ob.lft o := by
  cases o with
  | var x => rfl
  | op a b => rfl
theorem item_s [DecidableEq Ob] (o : Ob) (k : Nat) : Ob.item o (k + 1) = Ob.item (Ob.rgt o) k := by
  cases o with
  | var x => cases k <;> rfl
  | op a b => rfl
theorem csI_3 [DecidableEq Ob] (o : Ob) : csI o 3 ≤ npr o := by
  have h0 := npr_lft o
  have h1 := npr_lft (Ob.rgt o)
  have h2 := npr_lft (Ob.rgt (Ob.rgt o))
  have h3 := npr_lft (Ob.rgt (Ob.rgt (Ob.rgt o)))
  have p0 := npr_pos (Ob.lft o)
  have p3 := npr_pos (Ob.rgt (Ob.rgt (Ob.rgt (Ob.rgt o))))
  show 0 + npr (Ob.item o (0 + 1)) + npr (Ob.item o (1 + 1)) + npr (Ob.item o (2 + 1)) ≤ npr o
  rw [item_s, item_s, item_s, item_s, item_s, item_s, item_z, item_z, item_z]
  omega
theorem csI_mono [DecidableEq Ob] (o : Ob) (n m : Nat) (h : n ≤ m) : csI o n ≤ csI o m := by
  induction m with
  | zero => rw [show n = 0 by omega]; exact Int.le_refl _
  | succ m ih =>
    by_cases c : n = m + 1
    · rw [c]; exact Int.le_refl _
    · have := ih (by omega)
      have p := npr_pos (Ob.item o (m + 1))
      show csI o n ≤ csI o m + npr (Ob.item o (m + 1))
      omega
theorem csI_pos [DecidableEq Ob] (o : Ob) (n : Nat) : 0 ≤ csI o n := csI_mono o 0 n (Nat.zero_le _)
/-- how many terms the form has -/
def tcN [DecidableEq Ob] (f : Int) : Nat := (yT_TERM_COUNTS.getD (f - 28).toNat 0).toNat
theorem tc_le [DecidableEq Ob] : ∀ i : Nat, i < 16 → 0 ≤ yT_TERM_COUNTS.getD i 0 ∧ yT_TERM_COUNTS.getD i 0 ≤ 3 := by decide
theorem pc_isFormed [DecidableEq Ob] {a : Int} {Q : Int → iST → Prop} {u : iST} {E : Sp.Env} (hR : RdE u E) (ha : VN u a) (hz : npr (oc u a) ≤ 100000) (hroom : u.1 29 + npr (oc u a) ≤ 160000)
    (hq : ∀ f r v, VN u f → oc u f = Ob.lft (oc u a) → CG f8B f8W u v → RdE v E → v.1 29 ≤ u.1 29 + csI (oc u a) (tcN f) → bq r (FrW E (oc u a) f) → Q r v) : pv_3_isFormed a Q u := by
  have hT := hR.1
  have np := npr_pos (oc u a)
  have csp : ∀ n, 0 ≤ csI (oc u a) n := csI_pos (oc u a)
  unfold pv_3_isFormed
  refine pc_left hT ha (fun f vf ef => ?_)
  intro _
  refine pc_lengthOf hT ha ?_
  have out : ¬ (28 ≤ f ∧ f ≤ 43) → Q 0 u := fun h => hq f 0 u vf ef (CG.rf hT) hR (by have := csp (tcN f); omega) (bq0 (by unfold FrW; rw [decide_eq_false h]; rfl))
  refine ⟨fun z _ => out (by omega), fun z1 => ⟨fun z2 => ?_, fun z _ => out (by omega)⟩⟩
  have hin : 28 ≤ f ∧ f ≤ 43 := by omega
  have htc := tc_le (f - 28).toNat (by omega)
  have fw : FrW E (oc u a) f = (decide (yT_LENGTHS.getD (f - 28).toNat 0 ≤ Ob.len (oc u a)) && (decide (Ob.len (oc u a) ≤ yT_LENGTHS.getD (f - 28).toNat 0) || decide (f = 40 ∨ f = 43)) && Sp.termsAt E (oc u a) (yT_TERM_COUNTS.getD (f - 28).toNat 0).toNat) := by
    unfold FrW
    rw [decide_eq_true hin]
    rfl
  -- the terms
  have terms : (decide (yT_LENGTHS.getD (f - 28).toNat 0 ≤ Ob.len (oc u a)) && (decide (Ob.len (oc u a) ≤ yT_LENGTHS.getD (f - 28).toNat 0) || decide (f = 40 ∨ f = 43))) = true → pv_3_isFormed_77 Q a (f - 28) u := by
    intro hl
    rw [hl, Bool.true_and] at fw
    unfold pv_3_isFormed_77
    refine pv_3_isFormed_80_i (fun x1 x2 x5 y => x1 = a ∧ x2 = f - 28 ∧ ∃ k : Nat, x5 = (k : Int) + 1 ∧ k ≤ (yT_TERM_COUNTS.getD (f - 28).toNat 0).toNat ∧ CG f8B f8W u y ∧ RdE y E ∧ y.1 29 ≤ u.1 29 + csI (oc u a) k ∧ ∀ j, j < k → (Sp.rdAt E (oc u a) (j + 1)).isSome = true) ?_ ⟨rfl, rfl, 0, rfl, Nat.zero_le _, CG.rf hT, hR, by show _ ≤ u.1 29 + 0; omega, fun j hj => by omega⟩
    rintro x1 x2 x5 y ⟨b1, b2, k, b5, hk, gy, hy, h29, hj⟩
    rw [b1, b2, b5]
    have c3 := csI_3 (oc u a)
    have ck := csI_mono (oc u a) k 3 (by omega)
    unfold pv_3_isFormed_80b
    intro _ _ v6 e6 _
    refine ⟨fun q _ => hq f 1 y vf ef gy hy (by have := csI_mono (oc u a) k (tcN f) hk; omega) (bq1 ?_), fun q => ?_⟩
    · rw [fw]
      unfold Sp.termsAt
      refine List.all_eq_true.mpr (fun j hm => hj j ?_)
      have := List.mem_range.mp hm
      omega
    have eo : oc y a = oc u a := gy.oc hT ha.1 ha.2
    have ck1 := csI_mono (oc u a) (k + 1) 3 (by omega)
    have es : csI (oc u a) (k + 1) = csI (oc u a) k + npr (Ob.item (oc u a) (k + 1)) := rfl
    rw [show (k : Int) + 1 = ((k + 1 : Nat) : Int) by omega]
    refine pc_termAt hy (ha.up gy) (by rw [eo]; exact hz) (by rw [eo]; omega) (fun t w gw hw w29 hor => ?_)
    rw [eo] at w29 hor
    rcases hor with ⟨q1, q2⟩ | ⟨q1, q2⟩
    · refine ⟨fun q3 => absurd q1 q3, fun _ _ => hq f 0 w vf ef (gy.tr gw) hw (by have := csI_mono (oc u a) (k + 1) (tcN f) (show k + 1 ≤ (yT_TERM_COUNTS.getD (f - 28).toNat 0).toNat by omega); omega) (bq0 ?_)⟩
      rw [fw]
      refine bf_of (fun h => ?_)
      have := termsAt_rd h (k := k) (by omega)
      rw [q2] at this
      cases this
    · refine ⟨fun _ => ?_, fun q3 => absurd (show t ≠ -1 by have := q1.1.1; omega) q3⟩
      intro _
      refine ⟨rfl, rfl, k + 1, by omega, by omega, gy.tr gw, hw, by omega, fun j hj' => ?_⟩
      by_cases c : j = k
      · rw [c, q2]; rfl
      · exact hj j (by omega)
  have fifty : ∀ y0 : Int, (y0 ≠ 0 ↔ (f = 40 ∨ f = 43)) → pv_3_isFormed_50 Q a (f - 28) (Ob.len (oc u a)) y0 u := by
    intro y0 h0
    unfold pv_3_isFormed_50
    intro _ _ v4 e4 _
    refine ⟨fun q _ => hq f 0 u vf ef (CG.rf hT) hR (by have := csp (tcN f); omega) (bq0 ?_), fun q => ?_⟩
    · rw [fw, decide_eq_false (show ¬ yT_LENGTHS.getD (f - 28).toNat 0 ≤ Ob.len (oc u a) by omega)]
      rfl
    intro _ _ v5 e5 _
    refine ⟨fun q5 => terms ?_, fun q5 => ⟨fun q6 => terms ?_, fun q6 _ => hq f 0 u vf ef (CG.rf hT) hR (by have := csp (tcN f); omega) (bq0 ?_)⟩⟩
    · rw [decide_eq_true (show yT_LENGTHS.getD (f - 28).toNat 0 ≤ Ob.len (oc u a) by omega), decide_eq_true (show Ob.len (oc u a) ≤ yT_LENGTHS.getD (f - 28).toNat 0 by omega)]
      rfl
    · rw [decide_eq_true (show yT_LENGTHS.getD (f - 28).toNat 0 ≤ Ob.len (oc u a) by omega), decide_eq_true (h0.mp q6), Bool.or_true]
      rfl
    · rw [fw, decide_eq_false (show ¬ Ob.len (oc u a) ≤ yT_LENGTHS.getD (f - 28).toNat 0 by omega), decide_eq_false (fun q7 => q6 (h0.mpr q7)), Bool.or_false, Bool.and_false]
      rfl
  refine ⟨fun q => ?_, fun q => ⟨fun q2 => fifty 0 ⟨fun h => absurd rfl h, fun h => by omega⟩, fun q2 => ?_⟩⟩
  · unfold pv_3_isFormed_45
    exact fifty 1 ⟨fun _ => by omega, fun _ => by decide⟩
  · unfold pv_3_isFormed_45
    exact fifty 1 ⟨fun _ => by omega, fun _ => by decide⟩
