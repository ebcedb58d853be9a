-- deps: 711
/-! the class: negations, what is of truth values, of constants -/
theorem NdC.leaf [DecidableEq Ob] {u : iST} {E : Sp.Env} {k : Int} (h : VN u k) (hp : (oc u k).isPr = false) : NdC u E k := by
  refine ⟨h, Ob.wt_leaf hp, ?_⟩
  cases e : oc u k with
  | var x => show (1 : Int) ≤ 120; decide
  | op a b => rw [e] at hp; cases hp
theorem NdC.known [DecidableEq Ob] {u : iST} (hT : CT u) (E : Sp.Env) (c : Int) {o : Ob} (h0 : 0 ≤ c) (h4 : c < 44) (ho : Ob.knownC[c.toNat]? = some o) (hp : o.isPr = false) : NdC u E c ∧ oc u c = o := by
  obtain ⟨a, b, e⟩ := knC hT c h0 h4 ho
  exact ⟨NdC.leaf ⟨a, b⟩ (by rw [e]; exact hp), e⟩
/-- a term of one that is there -/
theorem NdC.one [DecidableEq Ob] {u : iST} {E : Sp.Env} {k t : Int} {f : Ob} (h : NdC u E k) (hc : (oc u k).isCallOf f = true) (hf : f ≠ Ob.quote) (ha : Sp.arOf E f = 1) (ht : VN u t) (et : oc u t = (oc u k).item 1) : NdC u E t := by
  obtain ⟨x, e, w⟩ := Ob.wt_one h.2.1 hc hf ha
  have hs := item_sz hc hf
  refine ⟨ht, ?_, ?_⟩
  · rw [et, e]; exact w
  · rw [et]; have := h.2.2; omega
theorem PdK.retd [DecidableEq Ob] {α : Type} {B : Int} {n r : Nat → Bool} {u v : iST} {R : EStateM.Result Unit Sp.Wk α} {x : Ob} {K : Ob → Sp.M α} (h : PdK B n r u v R (Sp.bd (Sp.ret x) K)) : PdK B n r u v R (K x) := h
theorem pc_negated [DecidableEq Ob] {α : Type} {a B : Int} {n r : Nat → Bool} {Q : Int → iST → Prop} {u v : iST} {E : Sp.Env} {R : EStateM.Result Unit Sp.Wk α} {K : Ob → Sp.M α} (hP : PdK B n r u v R (Sp.bd (Sp.mkNot (oc v a)) K)) (hn : ∀ k, n k = false → f8B k = false) (hr : ∀ k, r k = false → f8W k = false) (fit : Fit B R) (hK : ∀ a, Mono (K a)) (na : NdC v E a)
    (hq : ∀ t w, CG f8B f8W v w → (v.1 32 ≠ 0 → w.1 32 ≠ 0) → NdD w E t → PdK B n r u w R (K (oc w t)) → (t = -1 → w.1 32 ≠ 0) → Q t w) : pv_10_negated a Q v := by
  have hT := hP.1.1
  have stay : ∀ t, NdC v E t → PdK B n r u v R (K (oc v t)) → Q t v := fun t nt hp => hq t v (CG.rf hT) id nt.d hp (fun z => by have := nt.1.1; omega)
  unfold Sp.mkNot at hP
  unfold pv_10_negated
  refine pc_isCallK 16 hT na.1 (by decide) (by decide) (o := Ob.not) rfl (fun r1 h1 => ⟨fun z1 => ?_, fun z1 => ?_⟩)
  · rw [if_neg (by rw [h1.f z1]; decide)] at hP
    refine pc_isConstant hT na.1 (fun r2 h2 => ⟨fun z2 => ?_, fun z2 => ?_⟩)
    · have nn : ¬ oc v a = Ob.nil := fun z => by
        have := h2.f z2
        rw [z] at this
        have this : (Ob.isNat Ob.nil || decide (Ob.nil = Ob.nil) || decide (Ob.nil = Ob.t)) = false := this
        rw [decide_eq_true rfl, Bool.or_true] at this
        cases this
      rw [if_neg nn, if_neg (by rw [h2.f z2]; decide)] at hP
      obtain ⟨k0, k1, k2⟩ := knC hT 16 (o := Ob.not) (by decide) (by decide) rfl
      exact pc_mk1 hP hn hr fit hK ⟨⟨k0, k1⟩, k2⟩ (Ob.sym_isSym _) (Ob.sym_ne (by decide)) (arOf_not E) na.d hq
    · have k0 := katC hT 0 (o := Ob.nil) (by decide) (by decide) rfl na.1.1 na.1.2
      refine ⟨fun h0 => ?_, fun h0 => ?_⟩
      · rw [if_neg (fun z => h0 (k0.mpr z)), if_pos (h2.t z2)] at hP
        obtain ⟨nt, et⟩ := NdC.known hT E 0 (o := Ob.nil) (by decide) (by decide) rfl rfl
        exact stay 0 nt (by rw [et]; exact hP)
      · rw [if_pos (k0.mp (Decidable.not_not.mp h0))] at hP
        obtain ⟨nt, et⟩ := NdC.known hT E 1 (o := Ob.t) (by decide) (by decide) rfl rfl
        exact stay 1 nt (by rw [et]; exact hP)
  · have hc := h1.t z1
    rw [if_pos hc] at hP
    refine pc_item hT na.1 (by decide) (fun t ht et => ?_)
    have et : oc v t = (oc v a).item 1 := et
    exact stay t (na.one hc (Ob.sym_ne (by decide)) (arOf_not E) ht et) (by rw [et]; exact hP)
theorem pc_isNegation [DecidableEq Ob] {a b : Int} {Q : Int → iST → Prop} {u : iST} (hT : CT u) (ha : VN u a) (hb : VN u b) (hq : ∀ r, bq r (Sp.isNeg (oc u a) (oc u b)) → Q r u) : pv_10_isNegation a b Q u := by
  have eqB : ∀ c, VN u c → (∀ r, bq r (decide (oc u a = oc u c)) → Q r u) → br (a ≠ c) (ztp 0 (Q 0 u)) (ztp 1 (Q 1 u)) := fun c hc h => by
    have := hT.1.inj ha.1 ha.2 hc.1 hc.2
    exact ⟨fun z _ => h 0 (bq0 (decide_eq_false (fun q => z (this.mp q)))), fun z _ => h 1 (bq1 (decide_eq_true (this.mpr (Decidable.not_not.mp z))))⟩
  unfold Sp.isNeg at hq
  unfold pv_10_isNegation
  refine pc_isCallK 16 hT hb (by decide) (by decide) (o := Ob.not) rfl (fun r1 h1 => ⟨fun z1 => ?_, fun z1 => ?_⟩)
  · rw [if_neg (by rw [h1.f z1]; decide)] at hq
    refine pc_isConstant hT hb (fun r2 h2 => ⟨fun z2 => ?_, fun z2 => ?_⟩)
    · rw [if_neg (by rw [h2.f z2]; decide)] at hq
      refine pc_isCallK 16 hT ha (by decide) (by decide) (o := Ob.not) rfl (fun r3 h3 => ⟨fun z3 _ => hq 0 (bq0 ?_), fun z3 => ?_⟩)
      · rw [h3.f z3]; rfl
      · refine pc_item hT ha (by decide) (fun t ht et => ?_)
        have et : oc u t = (oc u a).item 1 := et
        have := hT.1.inj ht.1 ht.2 hb.1 hb.2
        rw [h3.t z3, Bool.true_and, ← et] at hq
        exact ⟨fun z _ => hq 0 (bq0 (decide_eq_false (fun q => z (this.mp q)))), fun z _ => hq 1 (bq1 (decide_eq_true (this.mpr (Decidable.not_not.mp z))))⟩
    · rw [if_pos (h2.t z2)] at hq
      have k0 := katC hT 0 (o := Ob.nil) (by decide) (by decide) rfl hb.1 hb.2
      obtain ⟨z0, z1'⟩ := VN.zero hT
      obtain ⟨t0, t1, t2⟩ := knC hT 1 (o := Ob.t) (by decide) (by decide) rfl
      refine ⟨fun h0 => ?_, fun h0 => ?_⟩
      · unfold pv_10_isNegation_53
        refine eqB 0 z0 (fun r hr => hq r ?_)
        rw [if_neg (fun z => h0 (k0.mpr z)), ← z1']
        exact hr
      · unfold pv_10_isNegation_53
        refine eqB 1 ⟨t0, t1⟩ (fun r hr => hq r ?_)
        rw [if_pos (k0.mp (Decidable.not_not.mp h0)), ← t2]
        exact hr
  · rw [if_pos (h1.t z1)] at hq
    refine pc_item hT hb (by decide) (fun t ht et => eqB t ht (fun r hr => hq r ?_))
    have et : oc u t = (oc u b).item 1 := et
    rw [← et]
    exact hr
theorem pc_isBoolean [DecidableEq Ob] {a : Int} {Q : Int → iST → Prop} {u : iST} (hT : CT u) (ha : VN u a) (hq : ∀ r, bq r (oc u a).isBool → Q r u) : pv_10_isBoolean a Q u := by
  have k0 := katC hT 0 (o := Ob.nil) (by decide) (by decide) rfl ha.1 ha.2
  have k1 := katC hT 1 (o := Ob.t) (by decide) (by decide) rfl ha.1 ha.2
  -- what is no such call
  have leaf : (Ob.isCallOf (oc u a) Ob.equal || Ob.isCallOf (oc u a) Ob.implies || Ob.isCallOf (oc u a) Ob.less || Ob.isCallOf (oc u a) Ob.consp || Ob.isCallOf (oc u a) Ob.natp || Ob.isCallOf (oc u a) Ob.symbolp || Ob.isCallOf (oc u a) Ob.not) = false → br (a = 0) (ztp 1 (Q 1 u)) (br (a ≠ 1) (ztp 0 (Q 0 u)) (ztp 1 (Q 1 u))) := by
    intro h
    simp only [Bool.or_eq_false_iff] at h
    obtain ⟨⟨⟨⟨⟨⟨h1, h2⟩, h3⟩, h4⟩, h5⟩, h6⟩, h7⟩ := h
    refine ⟨fun z _ => hq 1 (bq1 ?_), fun z => ⟨fun z2 _ => hq 0 (bq0 ?_), fun z2 _ => hq 1 (bq1 ?_)⟩⟩
    · unfold Ob.isBool
      rw [decide_eq_true (k0.mp z)]
      simp
    · unfold Ob.isBool
      rw [decide_eq_false (fun q => z2 (k1.mpr q)), decide_eq_false (fun q => z (k0.mpr q)), h1, h2, h3, h4, h5, h6, h7]
      rfl
    · unfold Ob.isBool
      rw [decide_eq_true (k1.mp (Decidable.not_not.mp z2))]
      simp
  have yes : ∀ c, VN u c → (oc u c = Ob.equal ∨ oc u c = Ob.implies ∨ oc u c = Ob.less ∨ oc u c = Ob.consp ∨ oc u c = Ob.natp ∨ oc u c = Ob.symbolp ∨ oc u c = Ob.not) → (oc u a).isCallOf (oc u c) = true → Q 1 u := by
    intro c hc h hcall
    refine hq 1 (bq1 ?_)
    unfold Ob.isBool
    rcases h with h | h | h | h | h | h | h <;> rw [h] at hcall <;> rw [hcall] <;> simp
  unfold pv_10_isBoolean
  refine pc_isCall hT ha (fun r hr => ⟨fun z => ?_, fun z => ?_⟩)
  · have hnc := hr.f z
    have nof : ∀ f : Ob, f ≠ Ob.quote → Ob.isCallOf (oc u a) f = false := fun f hf => by
      cases e : oc u a with
      | var x => rfl
      | op p q =>
        rw [e] at hnc
        have hp : p = Ob.quote := Decidable.not_not.mp (of_decide_eq_false hnc)
        exact decide_eq_false (fun z => hf (by rw [← z]; exact hp))
    unfold pv_10_isBoolean_23
    refine ⟨(fun z => by cases z), fun _ => ⟨(fun z => by cases z), fun _ => ⟨(fun z => by cases z), fun _ => ⟨(fun z => by cases z), fun _ => ⟨(fun z => by cases z), fun _ => ⟨(fun z => by cases z), fun _ => ⟨(fun z => by cases z), fun _ => ⟨(fun z => by cases z), fun _ => ⟨(fun z => by cases z), fun _ => ⟨(fun z => by cases z), fun _ => ⟨(fun z => by cases z), fun _ => ⟨(fun z => by cases z), fun _ => ⟨(fun z => by cases z), fun _ => leaf ?_⟩⟩⟩⟩⟩⟩⟩⟩⟩⟩⟩⟩⟩
    rw [nof Ob.equal (Ob.sym_ne (by decide)), nof Ob.implies (Ob.sym_ne (by decide)), nof Ob.less (Ob.sym_ne (by decide)), nof Ob.consp (Ob.sym_ne (by decide)), nof Ob.natp (Ob.sym_ne (by decide)), nof Ob.symbolp (Ob.sym_ne (by decide)), nof Ob.not (Ob.sym_ne (by decide))]
    rfl
  · have hc := hr.t z
    refine pc_left hT ha (fun l hl el => ?_)
    have hp := (oc_isPr hT ha).mp (oc_callPr hT ha hc)
    obtain ⟨vl, vr, _, _, e⟩ := oc_sides hT ha hp
    have ell : oc u l = oc u (cL (u.2.2 a)) := by rw [el, e]; rfl
    have of : ∀ f : Ob, Ob.isCallOf (oc u a) f = decide (oc u l = f) := fun f => by rw [ell, e]; rfl
    have self : (oc u a).isCallOf (oc u l) = true := by rw [of]; exact decide_eq_true rfl
    have kl : ∀ (k : Int) (o : Ob), 0 ≤ k → k < 44 → Ob.knownC[k.toNat]? = some o → (l = k ↔ oc u l = o) := fun k o k0 k4 ho => katC hT k k0 k4 ho hl.1 hl.2
    have no : l ≠ 4 → l ≠ 6 → l ≠ 9 → l ≠ 10 → l ≠ 13 → l ≠ 14 → l ≠ 16 → (Ob.isCallOf (oc u a) Ob.equal || Ob.isCallOf (oc u a) Ob.implies || Ob.isCallOf (oc u a) Ob.less || Ob.isCallOf (oc u a) Ob.consp || Ob.isCallOf (oc u a) Ob.natp || Ob.isCallOf (oc u a) Ob.symbolp || Ob.isCallOf (oc u a) Ob.not) = false := by
      intro a1 a2 a3 a4 a5 a6 a7
      rw [of, of, of, of, of, of, of]
      rw [decide_eq_false (fun q => a1 ((kl 4 _ (by decide) (by decide) rfl).mpr q)), decide_eq_false (fun q => a2 ((kl 6 _ (by decide) (by decide) rfl).mpr q)), decide_eq_false (fun q => a3 ((kl 9 _ (by decide) (by decide) rfl).mpr q)), decide_eq_false (fun q => a4 ((kl 10 _ (by decide) (by decide) rfl).mpr q)), decide_eq_false (fun q => a5 ((kl 13 _ (by decide) (by decide) rfl).mpr q)), decide_eq_false (fun q => a6 ((kl 14 _ (by decide) (by decide) rfl).mpr q)), decide_eq_false (fun q => a7 ((kl 16 _ (by decide) (by decide) rfl).mpr q))]
      rfl
    unfold pv_10_isBoolean_23
    refine ⟨fun c _ => yes l hl (Or.inl ((kl 4 _ (by decide) (by decide) rfl).mp c)) self, fun n4 => ⟨fun c => leaf (no (by omega) (by omega) (by omega) (by omega) (by omega) (by omega) (by omega)), fun n5 => ⟨fun c _ => yes l hl (Or.inr (Or.inl ((kl 6 _ (by decide) (by decide) rfl).mp c))) self, fun n6 => ⟨fun c => leaf (no (by omega) (by omega) (by omega) (by omega) (by omega) (by omega) (by omega)), fun n7 => ⟨fun c => leaf (no (by omega) (by omega) (by omega) (by omega) (by omega) (by omega) (by omega)), fun n8 => ⟨fun c _ => yes l hl (Or.inr (Or.inr (Or.inl ((kl 9 _ (by decide) (by decide) rfl).mp c)))) self, fun n9 => ⟨fun c _ => yes l hl (Or.inr (Or.inr (Or.inr (Or.inl ((kl 10 _ (by decide) (by decide) rfl).mp c))))) self, fun n10 => ⟨fun c => leaf (no (by omega) (by omega) (by omega) (by omega) (by omega) (by omega) (by omega)), fun n11 => ⟨fun c => leaf (no (by omega) (by omega) (by omega) (by omega) (by omega) (by omega) (by omega)), fun n12 => ⟨fun c _ => yes l hl (Or.inr (Or.inr (Or.inr (Or.inr (Or.inl ((kl 13 _ (by decide) (by decide) rfl).mp c)))))) self, fun n13 => ⟨fun c _ => yes l hl (Or.inr (Or.inr (Or.inr (Or.inr (Or.inr (Or.inl ((kl 14 _ (by decide) (by decide) rfl).mp c))))))) self, fun n14 => ⟨fun c => leaf (no (by omega) (by omega) (by omega) (by omega) (by omega) (by omega) (by omega)), fun n15 => ⟨fun c _ => yes l hl (Or.inr (Or.inr (Or.inr (Or.inr (Or.inr (Or.inr ((kl 16 _ (by decide) (by decide) rfl).mp c))))))) self, fun n16 => leaf (no n4 n6 n9 n10 n13 n14 n16)⟩⟩⟩⟩⟩⟩⟩⟩⟩⟩⟩⟩⟩
theorem all_toList [DecidableEq Ob] (p : Ob → Bool) (a b : Ob) : (Ob.toList (.pr a b)).all p = (p a && (Ob.toList b).all p) := rfl
theorem pc_isOfConstants [DecidableEq Ob] {a : Int} {Q : Int → iST → Prop} {u : iST} (hT : CT u) (ha : VN u a) (hq : ∀ r, bq r ((Ob.toList (Ob.rgt (oc u a))).all Ob.isConst) → Q r u) : pv_10_isOfConstants a Q u := by
  unfold pv_10_isOfConstants
  refine pc_right hT ha (fun b hb eb => ?_)
  refine pv_10_isOfConstants_9_i (fun x y => y = u ∧ VN u x ∧ (Ob.toList (oc u x)).all Ob.isConst = (Ob.toList (Ob.rgt (oc u a))).all Ob.isConst) ?_ ⟨rfl, hb, by rw [eb]⟩
  rintro x y ⟨ey, hx, e⟩
  rw [ey]
  unfold pv_10_isOfConstants_9b
  refine pc_isPair hT hx (fun r hr => ⟨fun z _ => hq 1 (bq1 ?_), fun z => ?_⟩)
  · rw [← e]
    have := hr.f z
    cases e2 : oc u x with
    | var q => rfl
    | op p q => rw [e2] at this; cases this
  · obtain ⟨vl, vr, _, _, es⟩ := oc_sides hT hx ((oc_isPr hT hx).mp (hr.t z))
    have es2 : oc u x = .pr (Ob.lft (oc u x)) (Ob.rgt (oc u x)) := by rw [es]; rfl
    refine pc_left hT hx (fun l hl el => pc_isConstant hT hl (fun r2 hr2 => ⟨fun z2 => ?_, fun z2 _ => hq 0 (bq0 ?_)⟩))
    · refine pc_right hT hx (fun t ht et => ⟨rfl, ht, ?_⟩)
      rw [← e, et]
      rw [es2, all_toList, ← el, hr2.t z2, Bool.true_and]
      rfl
    · rw [← e, es2, all_toList, ← el, hr2.f (Decidable.not_not.mp z2)]
      rfl
