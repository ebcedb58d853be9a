-- deps: 463
/-! the reference, partial: questions in rewriting -/
/-- a term at a place -/
def Nd [DecidableEq Ob] (u : iST) (E : Sp.Env) (k : Int) : Prop := 0 ≤ k ∧ k < u.1 8 ∧ Tm u (ob u k) ∧ Ob.wt (Sp.arOf E) (ob u k)
theorem Nd.mono [DecidableEq Ob] {n : Nat → Bool} {u v : iST} {E : Sp.Env} {k : Int} (h : Nd u E k) (hT : TI u) (hG : GZ n u v) : Nd v E k ∧ ob v k = ob u k := by
  have e := hG.ob hT h.1 h.2.1
  exact ⟨⟨h.1, by have := hG.le; have := h.2.1; omega, by rw [e]; exact h.2.2.1.mono hG hT, by rw [e]; exact h.2.2.2⟩, e⟩
theorem hasIt_ofList [DecidableEq Ob] : ∀ (l : List Ob) (i : Nat), i < l.length → hasIt (Ob.ofList l) i
  | [], _, h => by simp at h
  | a :: l, 0, _ => trivial
  | a :: l, i + 1, h => hasIt_ofList l i (by simpa using h)
theorem p_it [DecidableEq Ob] {k i : Int} {Q : Int → iST → Prop} {u : iST} {E : Sp.Env} (hT : TI u) (h : Nd u E k) {f : Ob} (hf : (ob u k).isCallOf f = true) (hq : f ≠ Ob.quote) {n : Int} (ha : Sp.arOf E f = n) (i1 : 1 ≤ i) (i2 : i ≤ n) (i3 : n ≤ 100) (hQ : ∀ j, Nd u E j → ob u j = (ob u k).item i.toNat → Q j u) : pw_term k i Q u := by
  obtain ⟨k0, k1, tm, wo⟩ := h
  obtain ⟨b, eb⟩ := Ob.isCallOf_iff.mp hf
  obtain ⟨g, l, e, h1, h2, h3, h4⟩ := Ob.wt_call wo (by rw [eb]; exact decide_eq_true hq)
  have eg : g = f := by rw [eb] at e; exact (Ob.pr.inj e).1.symm
  rw [eg, ha] at h3
  obtain ⟨m, rfl⟩ : ∃ m : Nat, i = (m : Int) + 1 := ⟨(i - 1).toNat, by omega⟩
  have hm : m < l.length := by omega
  have em : ((m : Int) + 1).toNat = m + 1 := by omega
  refine p_term hT k0 k1 (by omega) (by omega) (by rw [em, e]; exact hasIt_ofList l m hm) (fun j j0 j1 ej => hQ j ⟨j0, j1, ?_, ?_⟩ ej)
  · rw [ej, em, e, Ob.item_call, List.getD_eq_getElem?_getD, List.getElem?_eq_getElem hm]
    rw [e] at tm
    exact Tm_row l _ (Tm_call tm h1).2.1 (List.getElem_mem hm)
  · rw [ej, em, e]
    exact Ob.wt_item h4 hm
theorem p_callK [DecidableEq Ob] {a : Int} {Q : Int → iST → Prop} {u : iST} (hT : TI u) (hU : TU u) (a0 : 0 ≤ a) (a1 : a < u.1 8) (c : Int) {o : Ob} (h0 : 0 ≤ c) (h4 : c < 44) (ho : Ob.known[c.toNat]? = some o) (h : ∀ r, bq r ((ob u a).isCallOf o) → Q r u) : pw_isCallOf a c Q u := by
  have k := kn hT hU c h0 h4 ho
  exact p_isCallOf hT hU a0 a1 k.1 k.2.1 (fun r hr => h r (by rw [k.2.2] at hr; exact hr))
theorem p_isBoolean [DecidableEq Ob] {a : Int} {Q : Int → iST → Prop} {u : iST} (hT : TI u) (hU : TU u) (a0 : 0 ≤ a) (a1 : a < u.1 8) (h : ∀ r, bq r (ob u a).isBool → Q r u) : pw_isBoolean a Q u := by
  have e0 := kat hT hU 0 (by decide) (by decide) rfl a0 a1
  have e1 := kat hT hU 1 (by decide) (by decide) rfl a0 a1
  have yes : (ob u a).isBool = true → bz 1 → Q 1 u := fun e _ => h 1 (bq1 e)
  unfold pw_isBoolean
  refine ⟨fun hc => yes (by unfold Ob.isBool; simp [e1.mp hc]), fun n1 => ⟨fun hc => yes (by unfold Ob.isBool; simp [e0.mp hc]), fun n0 => ?_⟩⟩
  refine p_callK hT hU a0 a1 4 (by decide) (by decide) rfl (fun r4 h4 => ⟨fun hc => yes (by unfold Ob.isBool; simp [h4.t hc]), fun n4 => ?_⟩)
  refine p_callK hT hU a0 a1 6 (by decide) (by decide) rfl (fun r6 h6 => ⟨fun hc => yes (by unfold Ob.isBool; simp [h6.t hc]), fun n6 => ?_⟩)
  refine p_callK hT hU a0 a1 9 (by decide) (by decide) rfl (fun r9 h9 => ⟨fun hc => yes (by unfold Ob.isBool; simp [h9.t hc]), fun n9 => ?_⟩)
  refine p_callK hT hU a0 a1 10 (by decide) (by decide) rfl (fun r10 h10 => ⟨fun hc => yes (by unfold Ob.isBool; simp [h10.t hc]), fun n10 => ?_⟩)
  refine p_callK hT hU a0 a1 13 (by decide) (by decide) rfl (fun r13 h13 => ⟨fun hc => yes (by unfold Ob.isBool; simp [h13.t hc]), fun n13 => ?_⟩)
  refine p_callK hT hU a0 a1 14 (by decide) (by decide) rfl (fun r14 h14 => ⟨fun hc => yes (by unfold Ob.isBool; simp [h14.t hc]), fun n14 => ?_⟩)
  refine p_callK hT hU a0 a1 15 (by decide) (by decide) rfl (fun r15 h15 => ⟨fun hc _ => h 0 (bq0 ?_), fun hc => yes (by unfold Ob.isBool; simp [h15.t hc])⟩)
  unfold Ob.isBool
  rw [decide_eq_false (fun z => n1 (e1.mpr z)), decide_eq_false (fun z => n0 (e0.mpr z)), h4.f (Decidable.not_not.mp n4), h6.f (Decidable.not_not.mp n6), h9.f (Decidable.not_not.mp n9), h10.f (Decidable.not_not.mp n10), h13.f (Decidable.not_not.mp n13), h14.f (Decidable.not_not.mp n14), h15.f hc]
  rfl
theorem p_isNumbered [DecidableEq Ob] {a : Int} {Q : Int → iST → Prop} {u : iST} (hT : TI u) (hU : TU u) (a0 : 0 ≤ a) (a1 : a < u.1 8) (h : ∀ r, bq r (Sp.isNumd (ob u a)) → Q r u) : pw_isNumbered a Q u := by
  unfold pw_isNumbered
  refine p_callK hT hU a0 a1 7 (by decide) (by decide) rfl (fun r7 h7 => ⟨fun hc _ => h 1 (bq1 (by unfold Sp.isNumd; simp [h7.t hc])), fun n7 => ?_⟩)
  refine p_callK hT hU a0 a1 8 (by decide) (by decide) rfl (fun r8 h8 => ⟨fun hc _ => h 1 (bq1 (by unfold Sp.isNumd; simp [h8.t hc])), fun n8 => ?_⟩)
  refine p_callK hT hU a0 a1 16 (by decide) (by decide) rfl (fun r9 h9 => ⟨fun hc _ => h 0 (bq0 ?_), fun hc _ => h 1 (bq1 (by unfold Sp.isNumd; simp [h9.t hc]))⟩)
  unfold Sp.isNumd
  rw [h7.f (Decidable.not_not.mp n7), h8.f (Decidable.not_not.mp n8), h9.f hc]
  rfl
/-- what is assumed -/
def cxL [DecidableEq Ob] (u : iST) : List Ob := (List.range (u.1 109).toNat).map (fun i : Nat => ob u (u.2.1 108 (i : Int)))
def CxOk [DecidableEq Ob] (u : iST) (E : Sp.Env) : Prop := 0 ≤ u.1 109 ∧ ∀ i, 0 ≤ i → i < u.1 109 → Nd u E (u.2.1 108 i)
theorem cx_mem [DecidableEq Ob] {u : iST} {E : Sp.Env} (h : CxOk u E) {o : Ob} : o ∈ cxL u ↔ ∃ i, 0 ≤ i ∧ i < u.1 109 ∧ ob u (u.2.1 108 i) = o := by
  unfold cxL
  rw [List.mem_map]
  constructor
  · rintro ⟨i, hi, e⟩
    have := List.mem_range.mp hi
    exact ⟨i, by omega, by omega, e⟩
  · rintro ⟨i, i0, i1, e⟩
    exact ⟨i.toNat, List.mem_range.mpr (by omega), by rw [Int.toNat_of_nonneg i0]; exact e⟩
theorem p_isInContext [DecidableEq Ob] {a : Int} {Q : Int → iST → Prop} {u : iST} {E : Sp.Env} (hT : TI u) (hU : TU u) (hC : CxOk u E) (a0 : 0 ≤ a) (a1 : a < u.1 8) (h : ∀ r, bq r (Ob.has (cxL u) (ob u a)) → Q r u) : pw_isInContext a Q u := by
  unfold pw_isInContext
  refine pw_isInContext_2_i (fun x1 x2 v => v = u ∧ x1 = a ∧ 0 ≤ x2 ∧ ∀ i, 0 ≤ i → i < x2 → i < u.1 109 → u.2.1 108 i ≠ a) ?_ ⟨rfl, rfl, by omega, fun i i0 i1 => by omega⟩
  intro x1 x2 v hI
  obtain ⟨e1, e2, i0, hi⟩ := hI
  rw [e1, e2]
  unfold pw_isInContext_2b
  intro x ex _
  subst ex
  refine ⟨fun hc _ => h 0 (bq0 ?_), fun hc => ?_⟩
  · cases e : Ob.has (cxL u) (ob u a) with
    | false => rfl
    | true =>
      obtain ⟨i, j0, j1, j2⟩ := (cx_mem hC).mp (Ob.has_iff.mp e)
      have n := hC.2 i j0 j1
      exact absurd ((hT.inj hU n.1 n.2.1 a0 a1).mp j2) (hi i j0 (by omega) j1)
  · intro _ _ y ey _
    subst ey
    refine ⟨fun hd _ => ⟨rfl, rfl, by omega, fun i j0 j1 j2 => ?_⟩, fun hd _ => h 1 (bq1 (Ob.has_iff.mpr ((cx_mem hC).mpr ⟨x2, i0, by omega, by rw [Decidable.not_not.mp hd]⟩)))⟩
    by_cases c : i = x2
    · rw [c]; exact hd
    · exact hi i j0 (by omega) j2
def isDen [DecidableEq Ob] (o c : Ob) : Bool := Ob.isCallOf c Ob.not && decide (Ob.item c 1 = o)
theorem not_q [DecidableEq Ob] : Ob.not ≠ Ob.quote := Ob.sym_ne (by decide)
theorem equal_q [DecidableEq Ob] : Ob.equal ≠ Ob.quote := Ob.sym_ne (by decide)
theorem p_isDenied [DecidableEq Ob] {a : Int} {Q : Int → iST → Prop} {u : iST} {E : Sp.Env} (hT : TI u) (hU : TU u) (hC : CxOk u E) (a0 : 0 ≤ a) (a1 : a < u.1 8) (h : ∀ r, bq r ((cxL u).any (isDen (ob u a))) → Q r u) : pw_isDenied a Q u := by
  unfold pw_isDenied
  refine pw_isDenied_2_i (fun x1 x2 v => v = u ∧ x1 = a ∧ 0 ≤ x2 ∧ ∀ i, 0 ≤ i → i < x2 → i < u.1 109 → isDen (ob u a) (ob u (u.2.1 108 i)) = false) ?_ ⟨rfl, rfl, by omega, fun i i0 i1 => by omega⟩
  intro x1 x2 v hI
  obtain ⟨e1, e2, i0, hi⟩ := hI
  rw [e1, e2]
  unfold pw_isDenied_2b
  intro x ex _
  subst ex
  refine ⟨fun hc _ => h 0 (bq0 ?_), fun hc => ?_⟩
  · cases e : (cxL u).any (isDen (ob u a)) with
    | false => rfl
    | true =>
      obtain ⟨c, hc1, hc2⟩ := List.any_eq_true.mp e
      obtain ⟨i, j0, j1, j2⟩ := (cx_mem hC).mp hc1
      rw [← j2, hi i j0 (by omega) j1] at hc2
      cases hc2
  · intro _ _ y ey _
    subst ey
    have n := hC.2 x2 i0 (by omega)
    have n21 := n.2.1
    have goon : isDen (ob u a) (ob u (u.2.1 108 x2)) = false → ∀ i, 0 ≤ i → i < x2 + 1 → i < u.1 109 → isDen (ob u a) (ob u (u.2.1 108 i)) = false := by
      intro hz i j0 j1 j2
      by_cases c : i = x2
      · rw [c]; exact hz
      · exact hi i j0 (by omega) j2
    refine p_callK hT hU n.1 n.2.1 15 (by decide) (by decide) rfl (fun r hr => ⟨fun hd _ => ⟨rfl, rfl, by omega, goon ?_⟩, fun hd => ?_⟩)
    · unfold isDen; rw [hr.f hd]; rfl
    · have hn := hr.t hd
      obtain ⟨t, et, _⟩ := Ob.wt_one n.2.2.2 hn not_q (arOf_not E)
      obtain ⟨_, _, q0, q1, _, _, ep⟩ := ob_lft hT n.1 n.2.1 (by rw [et]; rfl)
      have er : ob u (u.2.1 1 (u.2.1 108 x2)) = .pr t Ob.nil := by rw [et] at ep; exact (Ob.pr.inj ep).2.symm
      obtain ⟨m0, m1, _, _, _, _, ep2⟩ := ob_lft hT q0 (by omega) (by rw [er]; rfl)
      have em : ob u (u.2.1 0 (u.2.1 1 (u.2.1 108 x2))) = t := by rw [er] at ep2; exact (Ob.pr.inj ep2).1.symm
      have eit : Ob.item (ob u (u.2.1 108 x2)) 1 = t := by rw [et]; rfl
      have hinj := hT.inj hU m0 (by omega : u.2.1 0 (u.2.1 1 (u.2.1 108 x2)) < u.1 8) a0 a1
      rw [em] at hinj
      intro _ _ y1 ey1 _ _ _ y2 ey2 _ _ _ y3 ey3 _
      subst ey1 ey2 ey3
      refine ⟨fun he _ => ⟨rfl, rfl, by omega, goon ?_⟩, fun he _ => h 1 (bq1 (List.any_eq_true.mpr ⟨_, (cx_mem hC).mpr ⟨x2, i0, by omega, rfl⟩, ?_⟩))⟩
      · unfold isDen
        rw [hn, eit, decide_eq_false (fun z => he (hinj.mp z))]; rfl
      · unfold isDen
        rw [hn, eit, decide_eq_true (hinj.mpr (Decidable.not_not.mp he))]; rfl
theorem findSome_rng [DecidableEq Ob] {α β : Type} {g : Nat → α} {p : α → Option β} : ∀ n : Nat, (∀ d b, d < n → p (g d) = some b → (∀ e, e < d → p (g e) = none) → ((List.range n).map g).findSome? p = some b) ∧ ((∀ e, e < n → p (g e) = none) → ((List.range n).map g).findSome? p = none)
  | 0 => ⟨fun d b hd => by omega, fun _ => rfl⟩
  | n + 1 => by
    have ih := findSome_rng (g := g) (p := p) n
    rw [List.range_succ, List.map_append, List.findSome?_append]
    refine ⟨fun d b hd hp he => ?_, fun he => ?_⟩
    · by_cases c : d < n
      · rw [ih.1 d b c hp he]; rfl
      · have : d = n := by omega
        subst this
        rw [ih.2 he]
        simp [hp]
    · rw [ih.2 (fun e h => he e (by omega))]
      have := he n (by omega)
      simp [this]
theorem p_lookedUp [DecidableEq Ob] {a truth : Int} {Q : Int → iST → Prop} {u : iST} {E : Sp.Env} (hT : TI u) (hU : TU u) (hC : CxOk u E) (hN : Nd u E a) (h : ∀ k, Nd u E k → ob u k = Sp.look (cxL u) (ob u a) (decide (truth ≠ 0)) → Q k u) : pw_lookedUp a truth Q u := by
  have k0 := kn hT hU 0 (by decide) (by decide) rfl
  have k1 := kn hT hU 1 (by decide) (by decide) rfl
  obtain ⟨a0, a1, ta, wa⟩ := hN
  have nd0 : Nd u E 0 := ⟨k0.1, k0.2.1, Tm_leaf (by rw [k0.2.2]; rfl), Ob.wt_leaf (by rw [k0.2.2]; rfl)⟩
  have nd1 : Nd u E 1 := ⟨k1.1, k1.2.1, Tm_leaf (by rw [k1.2.2]; rfl), Ob.wt_leaf (by rw [k1.2.2]; rfl)⟩
  have two : (Ob.has (cxL u) (ob u a) && (decide (truth ≠ 0) || (ob u a).isBool)) = false → pw_lookedUp_22 Q a u := by
    intro hz
    unfold pw_lookedUp_22
    refine p_isDenied hT hU hC a0 a1 (fun r hr => ⟨fun hd => ?_, fun hd => h 0 nd0 ?_⟩)
    · have hden := hr.f hd
      have elook : Sp.look (cxL u) (ob u a) (decide (truth ≠ 0)) = ((cxL u).findSome? (Sp.eqIn (ob u a))).getD (ob u a) := by
        unfold Sp.look
        rw [if_neg (by rw [hz]; decide), if_neg]
        have : (cxL u).any (fun c => Ob.isCallOf c Ob.not && decide (Ob.item c 1 = ob u a)) = false := hden
        rw [this]; decide
      refine pw_lookedUp_34_i (fun x1 x3 v => v = u ∧ x1 = a ∧ 0 ≤ x3 ∧ ∀ i, 0 ≤ i → i < x3 → i < u.1 109 → Sp.eqIn (ob u a) (ob u (u.2.1 108 i)) = none) ?_ ⟨rfl, rfl, by omega, fun i i0 i1 => by omega⟩
      intro x1 x3 v hI
      obtain ⟨e1, e2, i0, hi⟩ := hI
      rw [e1, e2]
      unfold pw_lookedUp_34b
      intro x ex _
      subst ex
      refine ⟨fun hc => h a ⟨a0, a1, ta, wa⟩ ?_, fun hc => ?_⟩
      · rw [elook]
        have := (findSome_rng (g := fun i : Nat => ob u (u.2.1 108 (i : Int))) (p := Sp.eqIn (ob u a)) (u.1 109).toNat).2 (fun e he => hi e (by omega) (by omega) (by omega))
        unfold cxL
        rw [this]; rfl
      · intro _ _ y ey _
        subst ey
        have n := hC.2 x3 i0 (by omega)
        have goon : Sp.eqIn (ob u a) (ob u (u.2.1 108 x3)) = none → u = u ∧ a = a ∧ 0 ≤ x3 + 1 ∧ ∀ i, 0 ≤ i → i < x3 + 1 → i < u.1 109 → Sp.eqIn (ob u a) (ob u (u.2.1 108 i)) = none := by
          intro hz
          refine ⟨rfl, rfl, by omega, fun i j0 j1 j2 => ?_⟩
          by_cases c : i = x3
          · rw [c]; exact hz
          · exact hi i j0 (by omega) j2
        have found : ∀ k, Nd u E k → Sp.eqIn (ob u a) (ob u (u.2.1 108 x3)) = some (ob u k) → Q k u := by
          intro k hk hz
          refine h k hk ?_
          rw [elook]
          have := (findSome_rng (g := fun i : Nat => ob u (u.2.1 108 (i : Int))) (p := Sp.eqIn (ob u a)) (u.1 109).toNat).1 x3.toNat (ob u k) (by omega) (by rw [Int.toNat_of_nonneg i0]; exact hz) (fun e he => hi e (by omega) (by omega) (by omega))
          unfold cxL
          rw [this]; rfl
        refine p_callK hT hU n.1 n.2.1 4 (by decide) (by decide) rfl (fun r4 h4 => ⟨fun hd => ?_, fun hd _ => goon ?_⟩)
        · have heq := h4.t hd
          intro _ _ y ey _
          subst ey
          refine p_it hT n heq equal_q (arOf_equal E) (by decide) (by decide) (by decide) (fun j1 nj1 ej1 => ?_)
          intro _ _ y ey _
          subst ey
          refine p_it hT n heq equal_q (arOf_equal E) (by decide) (by decide) (by decide) (fun j2 nj2 ej2 => ?_)
          have ej1 : ob u j1 = Ob.item (ob u (u.2.1 108 x3)) 1 := ej1
          have ej2 : ob u j2 = Ob.item (ob u (u.2.1 108 x3)) 2 := ej2
          have in1 := hT.inj hU nj1.1 nj1.2.1 a0 a1
          have in2 := hT.inj hU nj2.1 nj2.2.1 a0 a1
          have eqf : Sp.eqIn (ob u a) (ob u (u.2.1 108 x3)) = if ob u j1 = ob u a ∧ (ob u j2).isConst = true then some (ob u j2) else if ob u j2 = ob u a ∧ (ob u j1).isConst = true then some (ob u j1) else none := by
            unfold Sp.eqIn
            rw [if_pos heq, ← ej1, ← ej2]
          have second : ¬ (ob u j1 = ob u a ∧ (ob u j2).isConst = true) → pw_lookedUp_103 (fun x1 x3 v => v = u ∧ x1 = a ∧ 0 ≤ x3 ∧ ∀ i, 0 ≤ i → i < x3 → i < u.1 109 → Sp.eqIn (ob u a) (ob u (u.2.1 108 i)) = none) Q a x3 j1 j2 u := by
            intro hno
            unfold pw_lookedUp_103
            refine ⟨fun he _ => goon ?_, fun he => ?_⟩
            · rw [eqf, if_neg hno, if_neg (fun z => he (in2.mp z.1))]
            · refine p_isConstant hT hU nj1.1 nj1.2.1 nj1.2.2.1 (fun r5 h5 => ⟨fun hf _ => goon ?_, fun hf => found j1 nj1 ?_⟩)
              · rw [eqf, if_neg hno, if_neg (fun z => by rw [h5.f hf] at z; exact absurd z.2 (by decide))]
              · rw [eqf, if_neg hno, if_pos ⟨in2.mpr (Decidable.not_not.mp he), h5.t hf⟩]
          refine ⟨fun he => second (fun z => he (in1.mp z.1)), fun he => ?_⟩
          refine p_isConstant hT hU nj2.1 nj2.2.1 nj2.2.2.1 (fun r5 h5 => ⟨fun hf => second (fun z => by rw [h5.f hf] at z; exact absurd z.2 (by decide)), fun hf => found j2 nj2 ?_⟩)
          rw [eqf, if_pos ⟨in1.mpr (Decidable.not_not.mp he), h5.t hf⟩]
        · unfold Sp.eqIn
          rw [if_neg (by rw [h4.f (Decidable.not_not.mp hd)]; decide)]
    · unfold Sp.look
      rw [if_neg (by rw [hz]; decide), if_pos (show ((cxL u).any (fun c => Ob.isCallOf c Ob.not && decide (Ob.item c 1 = ob u a))) = true from hr.t hd), k0.2.2]
  have one : (Ob.has (cxL u) (ob u a) && (decide (truth ≠ 0) || (ob u a).isBool)) = true → Q 1 u := by
    intro hz
    refine h 1 nd1 ?_
    unfold Sp.look
    rw [if_pos hz, k1.2.2]
  unfold pw_lookedUp
  refine p_isInContext hT hU hC a0 a1 (fun r hr => ⟨fun hc => two (by rw [hr.f hc]; rfl), fun hc => ⟨fun hd => one (by rw [hr.t hc, decide_eq_true hd]; rfl), fun hd => ?_⟩⟩)
  refine p_isBoolean hT hU a0 a1 (fun r2 hr2 => ⟨fun he => two (by rw [hr.t hc, hr2.f he, decide_eq_false hd]; rfl), fun he => one (by rw [hr.t hc, hr2.t he]; simp)⟩)
