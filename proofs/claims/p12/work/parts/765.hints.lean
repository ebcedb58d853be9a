-- deps: 764
/-! the class: the HINTS -/
theorem pc_inductionAsked [DecidableEq Ob] {a : Int} {Q : Int → iST → Prop} {u : iST} {E : Sp.Env} (hT : CT u) (hD : DOc u E) (va : VN u a) (hq : Q (Sp.indAsk E (oc u a)) u) : pv_8_inductionAsked a Q u := by
  unfold Sp.indAsk at hq
  unfold pv_8_inductionAsked
  refine pc_left hT va (fun f vf ef => ?_)
  refine pc_lengthOf hT va ?_
  intro _
  have no : ¬ (1 ≤ (oc u a).len ∧ Ob.isName (Ob.lft (oc u a)) = true ∧ Sp.areVars (Ob.toList (Ob.rgt (oc u a))) = true) → Q 2 u := fun h => by
    rw [if_neg h] at hq
    exact hq
  refine ⟨fun z => no (fun q => by omega), fun z => ?_⟩
  have hl : 1 ≤ (oc u a).len := by omega
  refine pc_isName hT vf (fun r hr => ⟨fun z1 => no (fun q => by
    have := hr.f z1
    rw [ef] at this
    rw [this] at q
    cases q.2.1), fun z1 => ?_⟩)
  have hnm := hr.t z1
  rw [ef] at hnm
  refine pc_right hT va (fun t vt et => ?_)
  refine pc_areDifferentVariables hT vt (fun r2 h2 => ⟨fun z2 => ?_, fun z2 => no (fun q => by
    have := h2.f (Decidable.not_not.mp z2)
    rw [et] at this
    rw [this] at q
    cases q.2.2)⟩)
  have hav := h2.t z2
  rw [et] at hav
  rw [if_pos ⟨hl, hnm, hav⟩] at hq
  refine pc_functionOf hT hD vf (fun hno => ⟨fun q => absurd rfl q, fun _ => ?_⟩) (fun d d0 d1 ed hd => ⟨fun _ => ?_, fun q => absurd (show d ≠ -1 by omega) q⟩)
  · rw [ef] at hno
    rw [hno] at hq
    exact hq
  rw [ef] at hd
  rw [hd] at hq
  obtain ⟨p1, p2, ⟨p3, p4, p5, p6⟩, p7, p8⟩ := hD.2.2 d d0 d1
  have hpl : ((dfnC u d).params.length : Int) = u.2.1 2 d := by
    have := Ob.len_toList (o := oc u (u.2.1 1 d)) (by omega)
    show ((Ob.toList (oc u (u.2.1 1 d))).length : Int) = _
    omega
  have hrl : (oc u a).len - 1 = (Ob.rgt (oc u a)).len := by
    have hp := len_isPr hl
    cases e : oc u a with
    | var x => rw [e] at hp; cases hp
    | op x y =>
      rw [e] at hl
      rw [Ob.len_pr] at hl ⊢
      show _ = Ob.len y
      by_cases q : Ob.len y = -1
      · rw [if_pos q] at hl; omega
      · rw [if_neg q]; omega
  intro _ _ v8 e8 _
  have bad : ¬ ((dfnC u d).meas.isSome = true ∧ ((dfnC u d).params.length : Int) = (Ob.rgt (oc u a)).len) → pv_8_inductionAsked_105 Q u := fun h => by
    unfold pv_8_inductionAsked_105 pv_8_inductionAsked_106
    refine ⟨fun _ => ?_, fun q => absurd rfl q⟩
    have hq : Q (if (dfnC u d).meas.isSome = true ∧ ((dfnC u d).params.length : Int) = (Ob.rgt (oc u a)).len then 0 else 2) u := hq
    rw [if_neg h] at hq
    exact hq
  have em : (dfnC u d).meas = if u.2.1 4 d = -1 then none else some (oc u (u.2.1 4 d)) := rfl
  refine ⟨fun q => bad (fun h => ?_), fun q => ?_⟩
  · rw [em, if_pos (e8 ▸ q)] at h
    cases h.1
  intro _ _ v9 e9 _
  refine ⟨fun q2 => bad (fun h => q2 ?_), fun q2 => ?_⟩
  · rw [e9, hrl, ← h.2, hpl]
  · unfold pv_8_inductionAsked_106
    refine ⟨fun q3 => by omega, fun _ => ?_⟩
    have hq : Q (if (dfnC u d).meas.isSome = true ∧ ((dfnC u d).params.length : Int) = (Ob.rgt (oc u a)).len then 0 else 2) u := hq
    rw [if_pos ⟨by rw [em, if_neg (e8 ▸ q)]; rfl, by rw [hpl, ← hrl, ← e9]; exact Decidable.not_not.mp q2⟩] at hq
    exact hq
/-- what a use is asked -/
def useW [DecidableEq Ob] (E : Sp.Env) (n ps : Ob) : Int := if Ob.isName n = true then (match Sp.pairsOf E ps with | none => 2 | some l => match E.thmOf n with | none => 3 | some k => if l.all (fun p => Ob.has (Ob.parts k.form) p.1) = true then 0 else 2) else 2
theorem pc_useAsked [DecidableEq Ob] {a b : Int} {Q : Int → iST → Prop} {u : iST} {E : Sp.Env} (hT : CT u) (hD : DOc u E) (hTo : TOc u E) (hFm : ∀ j : Nat, (j : Int) < u.1 1 → NdC u E (u.2.1 6 (j : Int))) (h37 : u.1 37 = -1) (hs0 : ∀ f : Ob, f.isSym = false → Sp.arOf E f = -1) (va : VN u a) (vb : VN u b) (hlen : (oc u b).len ≠ -1) (hm : PrB E (Ob.toList (oc u b))) (hs : ∀ p, p ∈ Ob.toList (oc u b) → (Ob.item p 1).sz ≤ 1000000) (h32 : u.1 32 = 0) (hroom : u.1 29 + cpL (Ob.toList (oc u b)) ≤ 160000)
    (hq : ∀ v, CG f8Yn f8p u v → v.1 32 = 0 → v.1 29 ≤ u.1 29 + cpL (Ob.toList (oc u b)) → Q (useW E (oc u a) (oc u b)) v) : pv_8_useAsked a b Q u := by
  have cp := cpL_pos (Ob.toList (oc u b))
  unfold useW at hq
  unfold pv_8_useAsked
  refine pc_isName hT va (fun r hr => ⟨fun z => ?_, fun z => ?_⟩)
  · have := hq u (CG.rf hT) h32 (by omega)
    rw [if_neg (by rw [hr.f z]; decide)] at this
    exact this
  rw [if_pos (hr.t z)] at hq
  refine pc_bindPairs hT hD h37 (arOf6 hD) hs0 vb hlen hm hs h32 hroom (fun v gv v32 v29 hno => ⟨fun q => absurd rfl q, fun _ => ?_⟩) (fun v ps gv v32 v29 hB eB hsm hps => ⟨fun _ => ?_, fun q => absurd (by decide) q⟩)
  · have := hq v gv v32 v29
    rw [hno] at this
    exact this
  rw [hsm] at hq
  have hTv := hTo.mono hT gv (gv.2.2.1 1 (by decide)) (fun k h1 h2 => gv.2.2.2 k (by unfold f8p; simp only [Bool.or_eq_false_iff, decide_eq_false_iff_not]; omega)) (gv.2.2.2 50 (by decide))
  have ea : oc v a = oc u a := gv.oc hT va.1 va.2
  refine pc_theoremOf gv.1 hTv (va.up gv) (fun hno => ⟨fun q => absurd rfl q, fun _ => ?_⟩) (fun j k hj hk _ hth => ⟨fun _ => ?_, fun q => absurd (show (j : Int) ≠ -1 by omega) q⟩)
  · rw [ea] at hno
    have := hq v gv v32 v29
    rw [hno] at this
    exact this
  rw [ea] at hth
  rw [hth] at hq
  obtain ⟨_, ⟨k', ek', hk1⟩, _⟩ := hTv.2 j hj
  have ekk : k' = k := by rw [hk] at ek'; exact (Option.some.inj ek').symm
  rw [ekk] at hk1
  have hj' : (j : Int) < u.1 1 := by rw [← gv.2.2.1 1 (by decide)]; exact hj
  intro _ _ v4 e4 _
  rw [gv.2.2.2 6 (by decide)] at e4
  have nf := hFm j hj'
  rw [← e4] at nf
  obtain ⟨nfv, efv⟩ := nf.up hT gv
  have ef : k.form = oc v v4 := by rw [hk1.2.1, gv.2.2.2 6 (by decide), e4]
  refine pc_hasBound (ar := Sp.arOf E) gv.1 nfv.1 nfv.2.1 nfv.2.2 hB (fun r3 w gw wc h3 => ?_)
  have gw' : CG f8Yn f8p v w := gw.mono (fun _ _ => rfl) (fun k h => f8q_m k (f8m_p k h))
  have fin := hq w (gv.tr gw') (by rw [gw.2.2.1 32 rfl]; exact v32) (by rw [gw.2.2.1 29 rfl]; exact v29)
  have fin : Q (if ps.all (fun p => Ob.has (Ob.parts k.form) p.1) = true then 0 else 2) w := fin
  have hiff : ps.all (fun p => Ob.has (Ob.parts k.form) p.1) = true ↔ ∀ i, 0 ≤ i → i < v.1 39 → oc v (v.2.1 35 i) ∈ Ob.parts (oc v v4) := by
    rw [List.all_eq_true]
    constructor
    · intro h i i0 i1
      have := h _ (by rw [← eB]; exact bdL_mem.mpr ⟨i, i0, i1, rfl⟩)
      rw [ef] at this
      exact Ob.has_iff.mp this
    · intro h p hp
      rw [← eB] at hp
      obtain ⟨i, i0, i1, e⟩ := bdL_mem.mp hp
      rw [ef, e]
      exact Ob.has_iff.mpr (h i i0 i1)
  refine ⟨fun q => ?_, fun q => ?_⟩
  · rw [if_neg (fun h => h3.mpr (hiff.mp h) q)] at fin
    exact fin
  · rw [if_pos (hiff.mpr (h3.mp q))] at fin
    exact fin
theorem offW_cons [DecidableEq Ob] (E : Sp.Env) (x : Ob) (l : List Ob) : offW E (x :: l) = if Ob.isName x = true then (if offW E l = 2 then 2 else if (E.thmOf x).isSome = true then offW E l else 3) else 2 := by
  unfold offW
  rw [List.all_cons, List.all_cons]
  cases Ob.isName x with
  | false => rfl
  | true =>
    rw [Bool.true_and]
    cases l.all Ob.isName with
    | false => rfl
    | true =>
      cases (E.thmOf x).isSome with
      | false => cases l.all (fun n => (E.thmOf n).isSome) <;> rfl
      | true => cases l.all (fun n => (E.thmOf n).isSome) <;> rfl
theorem pc_offAsked [DecidableEq Ob] {a : Int} {Q : Int → iST → Prop} {u : iST} {E : Sp.Env} (hT : CT u) (hTo : TOc u E) (va : VN u a) (hq : Q (offW E (Ob.toList (oc u a))) u) : pv_8_offAsked a Q u := by
  unfold pv_8_offAsked
  refine pv_8_offAsked_4_i (fun x2 x3 y => y = u ∧ (x2 = 0 ∨ x2 = 3) ∧ VN u x3 ∧ offW E (Ob.toList (oc u a)) = (if offW E (Ob.toList (oc u x3)) = 2 then 2 else if x2 = 3 then 3 else offW E (Ob.toList (oc u x3)))) ?_ ⟨rfl, Or.inl rfl, va, by rw [if_neg (show ¬ (0 : Int) = 3 by decide)]; split <;> omega⟩
  rintro x2 x3 y ⟨ey, h2, vx, hw⟩
  rw [ey]
  unfold pv_8_offAsked_4b
  refine pc_isPair hT vx (fun r hr => ⟨fun z => ?_, fun z => ?_⟩)
  · have hno := hr.f z
    cases e : oc u x3 with
    | op p l => rw [e] at hno; cases hno
    | var w =>
      rw [e] at hw
      have e0 : offW E (Ob.toList (.var w)) = 0 := rfl
      rw [e0, if_neg (by decide)] at hw
      rw [hw] at hq
      rcases h2 with q | q
      · rw [q] at hq ⊢; exact hq
      · rw [q] at hq ⊢; exact hq
  have hpr := hr.t z
  cases e : oc u x3 with
  | var w => rw [e] at hpr; cases hpr
  | op h l =>
    rw [e] at hw
    have et : Ob.toList (Lean.Data.AC.Expr.op h l) = h :: Ob.toList l := rfl
    rw [et, offW_cons] at hw
    refine pc_left hT vx (fun v2 vv2 e2 => ?_)
    rw [e] at e2
    have e2 : oc u v2 = h := e2
    refine pc_isName hT vv2 (fun r3 h3 => ⟨fun z3 => ?_, fun z3 => ?_⟩)
    · have hn := h3.t z3
      rw [e2] at hn
      rw [if_pos hn] at hw
      have step : ∀ y2 : Int, (y2 = 0 ∨ y2 = 3) → offW E (Ob.toList (oc u a)) = (if offW E (Ob.toList l) = 2 then 2 else if y2 = 3 then 3 else offW E (Ob.toList l)) → pv_8_offAsked_59 (fun x2 x3 y => y = u ∧ (x2 = 0 ∨ x2 = 3) ∧ VN u x3 ∧ offW E (Ob.toList (oc u a)) = (if offW E (Ob.toList (oc u x3)) = 2 then 2 else if x2 = 3 then 3 else offW E (Ob.toList (oc u x3)))) Q x3 y2 u := fun y2 hy hh => by
        unfold pv_8_offAsked_59
        refine pc_right hT vx (fun t vt et' => ?_)
        rw [e] at et'
        have et' : oc u t = l := et'
        exact ⟨rfl, hy, vt, by rw [et']; exact hh⟩
      refine pc_left hT vx (fun v4 vv4 e4 => ?_)
      rw [e] at e4
      have e4 : oc u v4 = h := e4
      refine pc_theoremOf hT hTo vv4 (fun hno => ⟨fun q => absurd rfl q, fun _ => step 3 (Or.inr rfl) ?_⟩) (fun j k hj hk _ hth => ⟨fun _ => step x2 h2 ?_, fun q => absurd (show (j : Int) ≠ -1 by omega) q⟩)
      · rw [e4] at hno
        rw [hno] at hw
        rw [hw]
        rcases offW_range E (Ob.toList l) with q | q | q <;> rw [q] <;> rcases h2 with q2 | q2 <;> rw [q2] <;> rfl
      · rw [e4] at hth
        rw [hth] at hw
        rw [hw]
        rcases offW_range E (Ob.toList l) with q | q | q <;> rw [q] <;> rcases h2 with q2 | q2 <;> rw [q2] <;> rfl
    · have hn := h3.f (Decidable.not_not.mp z3)
      rw [e2] at hn
      have e2' : (if Ob.isName h = true then (if offW E (Ob.toList l) = 2 then (2 : Int) else if (E.thmOf h).isSome = true then offW E (Ob.toList l) else 3) else 2) = 2 := if_neg (by rw [hn]; decide)
      rw [e2', if_pos rfl] at hw
      rw [hw] at hq
      exact hq
def f8a (k : Nat) : Bool := f8Yn k || decide (k = 36)
theorem f8Y_a [DecidableEq Ob] : ∀ k, f8a k = false → f8Yn k = false := fun k h => (Bool.or_eq_false_iff.mp h).1
/-- what the objects of the hints are like -/
def HnW [DecidableEq Ob] (E : Sp.Env) (h : Ob) : Prop := PrB E (Ob.toList (Ob.rgt (Ob.rgt h))) ∧ ∀ p, p ∈ Ob.toList (Ob.rgt (Ob.rgt h)) → (Ob.item p 1).sz ≤ 1000000
theorem len_rr [DecidableEq Ob] {h : Ob} (hl : 2 ≤ h.len) : Ob.len (Ob.rgt (Ob.rgt h)) ≠ -1 := by
  cases h with
  | var x =>
    rw [Ob.len_var] at hl
    split at hl <;> omega
  | op a b =>
    rw [Ob.len_pr] at hl
    show Ob.len (Ob.rgt b) ≠ -1
    cases b with
    | var x =>
      rw [Ob.len_var] at hl
      by_cases q : .var x = Ob.nil
      · rw [if_pos q, if_neg (by decide)] at hl
        omega
      · rw [if_neg q, if_pos rfl] at hl
        omega
    | op c d =>
      rw [Ob.len_pr] at hl
      show Ob.len d ≠ -1
      intro q
      rw [if_pos q] at hl
      have hl : (2 : Int) ≤ (if (-1 : Int) = -1 then -1 else -1 + 1) := hl
      rw [if_pos rfl] at hl
      omega
theorem lft_known [DecidableEq Ob] {u : iST} (hT : CT u) {f : Int} (vf : VN u f) (c : Int) {o : Ob} (h0 : 0 ≤ c) (h4 : c < 44) (ho : Ob.knownC[c.toNat]? = some o) : f = c ↔ oc u f = o := katC hT c h0 h4 ho vf.1 vf.2
theorem pc_hintsAsked [DecidableEq Ob] {a : Int} {Q : Int → iST → Prop} {u : iST} {E : Sp.Env} {hs : List Ob} (hT : CT u) (hD : DOc u E) (hTo : TOc u E) (hFm : ∀ j : Nat, (j : Int) < u.1 1 → NdC u E (u.2.1 6 (j : Int))) (h37 : u.1 37 = -1) (hs0 : ∀ f : Ob, f.isSym = false → Sp.arOf E f = -1) (va : VN u a) (ea : Ob.toList (oc u a) = hs) (hw : ∀ h, h ∈ hs → HnW E h) (h32 : u.1 32 = 0) (hroom : u.1 29 + cpH hs ≤ 160000)
    (hq : ∀ v, CG f8a f8p u v → v.1 32 = 0 → v.1 29 ≤ u.1 29 + cpH hs → (Sp.hintsAsk E hs = 0 → (v.1 36 = -1 ∧ hs.find? (fun h => decide (Ob.lft h = Ob.induct)) = none) ∨ ∃ h, VN v (v.1 36) ∧ oc v (v.1 36) = Ob.item h 1 ∧ hs.find? (fun h => decide (Ob.lft h = Ob.induct)) = some h ∧ Sp.indAsk E (Ob.item h 1) = 0) → Q (Sp.hintsAsk E hs) v) : pv_8_hintsAsked a Q u := by
  unfold pv_8_hintsAsked
  intro y0 ey0
  have g0 : CG f8a f8p u y0 := by rw [ey0]; exact CG_I hT (by decide) (by decide)
  have c0 : oc y0 a = oc u a := oc_same (by rw [ey0]; rfl) a
  have n36 : y0.1 36 = -1 := by rw [ey0, iIc_at]
  have n29 : y0.1 29 = u.1 29 := by rw [ey0]; rfl
  have hgo : ∀ (i o : Bool) (a : Int) (h : Ob) (l : List Ob), Sp.hintsGo E (h :: l) i o a = if Sp.hintAsk E h i o = 2 then 2 else Sp.hintsGo E l (i || decide (Ob.lft h = Ob.induct)) (o || decide (Ob.lft h = Ob.off)) (if a = 3 then 3 else Sp.hintAsk E h i o) := fun _ _ _ _ _ => rfl
  refine pv_8_hintsAsked_12_i (fun x2 x3 x4 y => ∃ (pre rest : List Ob) (i o : Bool), hs = pre ++ rest ∧ (x2 = 0 ∨ x2 = 3) ∧ (x3 ≠ 0 ↔ o = true) ∧ CG f8a f8p u y ∧ y.1 32 = 0 ∧ VN y x4 ∧ Ob.toList (oc y x4) = rest ∧ y.1 29 + cpH rest ≤ u.1 29 + cpH hs ∧ (y.1 36 = -1 ↔ i = false) ∧ (i = pre.any (fun h => decide (Ob.lft h = Ob.induct))) ∧ (i = true → ∃ h, VN y (y.1 36) ∧ oc y (y.1 36) = Ob.item h 1 ∧ pre.find? (fun h => decide (Ob.lft h = Ob.induct)) = some h ∧ (x2 = 0 → Sp.indAsk E (Ob.item h 1) = 0)) ∧ Sp.hintsGo E hs false false 0 = Sp.hintsGo E rest i o x2) ?_ ⟨[], hs, false, false, rfl, Or.inl rfl, ⟨fun q => absurd rfl q, fun q => by cases q⟩, g0, by rw [ey0]; exact h32, va.up g0, by rw [c0]; exact ea, by omega, ⟨fun _ => rfl, fun _ => n36⟩, rfl, (fun q => by cases q), rfl⟩
  rintro x2 x3 x4 y ⟨pre, rest, i, o, ehs, h2, h3, gy, ya, vx, er, h29, h36, hi, hind, hg⟩
  have cpr := cpH_pos rest
  unfold pv_8_hintsAsked_12b
  refine pc_isPair gy.1 vx (fun r hr => ⟨fun z => ?_, fun z => ?_⟩)
  · have hno := hr.f z
    have er0 : rest = [] := by
      rw [← er]
      cases e : oc y x4 with
      | op p l => rw [e] at hno; cases hno
      | var w => rfl
    rw [er0] at hg ehs h29
    rw [List.append_nil] at ehs
    have hg : Sp.hintsAsk E hs = x2 := hg
    have h29 : y.1 29 + 0 ≤ u.1 29 + cpH hs := h29
    rw [← hg]
    refine hq y gy ya (by omega) (fun q => ?_)
    rw [hg] at q
    cases hib : i with
    | false =>
      refine Or.inl ⟨h36.mpr hib, ?_⟩
      rw [hib, ← ehs] at hi
      refine List.find?_eq_none.mpr (fun h hm hh => ?_)
      have : pre.any (fun h => decide (Ob.lft h = Ob.induct)) = true := List.any_eq_true.mpr ⟨h, by rw [← ehs]; exact hm, hh⟩
      rw [← ehs, ← hi] at this
      cases this
    | true =>
      obtain ⟨h, b1, b2, b3, b4⟩ := hind hib
      exact Or.inr ⟨h, b1, b2, by rw [ehs]; exact b3, b4 q⟩
  have hpr := hr.t z
  cases e : oc y x4 with
  | var w => rw [e] at hpr; cases hpr
  | op h l =>
    rw [e] at er
    have er : rest = h :: Ob.toList l := er.symm
    rw [er] at hg ehs h29
    have h29 : y.1 29 + (cpL (Ob.toList (Ob.rgt (Ob.rgt h))) + cpH (Ob.toList l)) ≤ u.1 29 + cpH hs := h29
    have cpl := cpL_pos (Ob.toList (Ob.rgt (Ob.rgt h)))
    have cpl2 := cpH_pos (Ob.toList l)
    have hwh : HnW E h := hw h (by rw [ehs]; exact List.mem_append.mpr (Or.inr List.mem_cons_self))
    rw [hgo] at hg
    have hrg := hintAsk_range E h i o
    have ehs' : hs = (pre ++ [h]) ++ Ob.toList l := by rw [ehs, List.append_assoc]; rfl
    refine pc_left gy.1 vx (fun v2 vv2 e2 => ?_)
    rw [e] at e2
    have e2 : oc y v2 = h := e2
    refine pc_lengthOf gy.1 vv2 ?_
    rw [e2]
    -- on to the next hint, or the end
    have fin : ∀ (w : iST) (s8 x3' : Int), CG f8a f8p y w → w.1 32 = 0 → w.1 29 ≤ y.1 29 + cpL (Ob.toList (Ob.rgt (Ob.rgt h))) → s8 = Sp.hintAsk E h i o → (s8 ≠ 2 → (x3' ≠ 0 ↔ (o || decide (Ob.lft h = Ob.off)) = true) ∧ (w.1 36 = -1 ↔ (i || decide (Ob.lft h = Ob.induct)) = false) ∧ ((i || decide (Ob.lft h = Ob.induct)) = true → ∃ h', VN w (w.1 36) ∧ oc w (w.1 36) = Ob.item h' 1 ∧ (pre ++ [h]).find? (fun h => decide (Ob.lft h = Ob.induct)) = some h' ∧ (x2 = 0 → s8 = 0 → Sp.indAsk E (Ob.item h' 1) = 0))) → pv_8_hintsAsked_188 (fun x2 x3 x4 y => ∃ (pre rest : List Ob) (i o : Bool), hs = pre ++ rest ∧ (x2 = 0 ∨ x2 = 3) ∧ (x3 ≠ 0 ↔ o = true) ∧ CG f8a f8p u y ∧ y.1 32 = 0 ∧ VN y x4 ∧ Ob.toList (oc y x4) = rest ∧ y.1 29 + cpH rest ≤ u.1 29 + cpH hs ∧ (y.1 36 = -1 ↔ i = false) ∧ (i = pre.any (fun h => decide (Ob.lft h = Ob.induct))) ∧ (i = true → ∃ h, VN y (y.1 36) ∧ oc y (y.1 36) = Ob.item h 1 ∧ pre.find? (fun h => decide (Ob.lft h = Ob.induct)) = some h ∧ (x2 = 0 → Sp.indAsk E (Ob.item h 1) = 0)) ∧ Sp.hintsGo E hs false false 0 = Sp.hintsGo E rest i o x2) Q x2 x3' x4 s8 w := by
      intro w s8 x3' gw wa w29 es8 hne
      unfold pv_8_hintsAsked_188
      refine ⟨fun q => ?_, fun q => ?_⟩
      · obtain ⟨k1, k2, k3⟩ := hne q
        intro v5 e5 _
        refine pc_right gw.1 (vx.up gw) (fun t vt et => ?_)
        rw [gw.oc gy.1 vx.1 vx.2, e] at et
        have et : oc w t = l := et
        rw [← es8, if_neg q] at hg
        have e5' : v5 = if x2 = 3 then 3 else s8 := by
          rw [e5]
          rw [← es8] at hrg
          rcases h2 with q2 | q2 <;> rcases hrg with q3 | q3 | q3
          · rw [q2, q3]; rfl
          · exact absurd q3 q
          · rw [q2, q3]; rfl
          · rw [q2, q3]; rfl
          · exact absurd q3 q
          · rw [q2, q3]; rfl
        refine ⟨pre ++ [h], Ob.toList l, (i || decide (Ob.lft h = Ob.induct)), (o || decide (Ob.lft h = Ob.off)), ehs', ?_, k1, gy.tr gw, wa, vt, by rw [et], by omega, k2, ?_, fun q2 => ?_, by rw [hg, e5']⟩
        · rw [e5']
          rw [← es8] at hrg
          rcases h2 with q2 | q2
          · rw [q2, if_neg (by decide)]
            rcases hrg with q3 | q3 | q3
            · exact Or.inl q3
            · exact absurd q3 q
            · exact Or.inr q3
          · rw [if_pos q2]; exact Or.inr rfl
        · rw [List.any_append, ← hi]
          show _ = (i || (decide (Ob.lft h = Ob.induct) || false))
          rw [Bool.or_false]
        · obtain ⟨h', b1, b2, b3, b4⟩ := k3 q2
          refine ⟨h', b1, b2, b3, fun q3 => ?_⟩
          rw [e5'] at q3
          by_cases q4 : x2 = 3
          · rw [if_pos q4] at q3; cases q3
          · rw [if_neg q4] at q3
            exact b4 (by omega) q3
      · have q := Decidable.not_not.mp q
        rw [← es8, if_pos q] at hg
        rw [q]
        have hg : Sp.hintsAsk E hs = 2 := hg
        have := hq w (gy.tr gw) wa (by omega) (fun q2 => by rw [hg] at q2; cases q2)
        rw [hg] at this
        exact this
    -- what the hint has not changed
    have keep : ∀ (w : iST), CG f8a f8p y w → w.1 36 = y.1 36 → Ob.lft h ≠ Ob.induct → ((w.1 36 = -1 ↔ (i || decide (Ob.lft h = Ob.induct)) = false) ∧ ((i || decide (Ob.lft h = Ob.induct)) = true → ∃ h', VN w (w.1 36) ∧ oc w (w.1 36) = Ob.item h' 1 ∧ (pre ++ [h]).find? (fun h => decide (Ob.lft h = Ob.induct)) = some h' ∧ (x2 = 0 → ∀ s8 : Int, s8 = 0 → Sp.indAsk E (Ob.item h' 1) = 0))) := fun w gw w36 hne => by
      rw [decide_eq_false hne, Bool.or_false, w36]
      refine ⟨h36, fun q => ?_⟩
      obtain ⟨h', b1, b2, b3, b4⟩ := hind q
      refine ⟨h', b1.up gw, by rw [gw.oc gy.1 b1.1 b1.2]; exact b2, ?_, fun q2 _ _ => b4 q2⟩
      rw [List.find?_append, b3]
      rfl
    have two : ∀ (w : iST) (x3' : Int), w = y → (2 : Int) = Sp.hintAsk E h i o → pv_8_hintsAsked_188 (fun x2 x3 x4 y => ∃ (pre rest : List Ob) (i o : Bool), hs = pre ++ rest ∧ (x2 = 0 ∨ x2 = 3) ∧ (x3 ≠ 0 ↔ o = true) ∧ CG f8a f8p u y ∧ y.1 32 = 0 ∧ VN y x4 ∧ Ob.toList (oc y x4) = rest ∧ y.1 29 + cpH rest ≤ u.1 29 + cpH hs ∧ (y.1 36 = -1 ↔ i = false) ∧ (i = pre.any (fun h => decide (Ob.lft h = Ob.induct))) ∧ (i = true → ∃ h, VN y (y.1 36) ∧ oc y (y.1 36) = Ob.item h 1 ∧ pre.find? (fun h => decide (Ob.lft h = Ob.induct)) = some h ∧ (x2 = 0 → Sp.indAsk E (Ob.item h 1) = 0)) ∧ Sp.hintsGo E hs false false 0 = Sp.hintsGo E rest i o x2) Q x2 x3' x4 2 y := fun w x3' _ h2' => fin y 2 x3' (CG.rf gy.1) ya (by omega) h2' (fun q => absurd rfl q)
    have kIU : Ob.induct ≠ Ob.use := Ob.sym_ne (by decide)
    have kIO : Ob.induct ≠ Ob.off := Ob.sym_ne (by decide)
    have kUO : Ob.use ≠ Ob.off := Ob.sym_ne (by decide)
    have lo := Ob.len_low h
    refine ⟨fun hl2 => ?_, fun hl2 => ?_⟩
    rotate_left
    · -- too short
      have h2' : (2 : Int) = Sp.hintAsk E h i o := by
        unfold Sp.hintAsk
        by_cases c1 : Ob.len h < 1
        · rw [if_pos c1]
        rw [if_neg c1]
        by_cases c2 : Ob.lft h = Ob.induct
        · rw [if_pos c2, if_pos (Or.inr (by omega))]
        rw [if_neg c2]
        by_cases c3 : Ob.lft h = Ob.use
        · rw [if_pos c3]
          unfold Sp.useAsk
          rw [if_neg (fun q => by omega)]
        rw [if_neg c3]
        by_cases c4 : Ob.lft h = Ob.off
        · rw [if_pos c4]
          have : Sp.offAsk E h = 2 := by
            unfold Sp.offAsk
            exact if_neg (fun q => by omega)
          rw [this]
          split <;> rfl
        rw [if_neg c4]
      unfold pv_8_hintsAsked_65
      refine ⟨fun _ => ?_, fun q => absurd (by decide) q⟩
      unfold pv_8_hintsAsked_118
      exact ⟨fun _ => ⟨fun _ => two y x3 rfl h2', fun q => absurd (by decide) q⟩, fun q => absurd (by decide) q⟩
    have nl1 : ¬ Ob.len h < 1 := by omega
    refine pc_left gy.1 vv2 (fun v4 vv4 e4 => ?_)
    rw [e2] at e4
    have kI := katC gy.1 43 (o := Ob.induct) (by decide) (by decide) rfl vv4.1 vv4.2
    have kU := katC gy.1 26 (o := Ob.use) (by decide) (by decide) rfl vv4.1 vv4.2
    have kO := katC gy.1 24 (o := Ob.off) (by decide) (by decide) rfl vv4.1 vv4.2
    rw [e4] at kI kU kO
    unfold pv_8_hintsAsked_65
    have hask : Sp.hintAsk E h i o = (if Ob.lft h = Ob.induct then (if i = true ∨ Ob.len h ≠ 2 then 2 else Sp.indAsk E (Ob.item h 1)) else if Ob.lft h = Ob.use then Sp.useAsk E h else if Ob.lft h = Ob.off then (if o = true then 2 else Sp.offAsk E h) else 2) := by
      unfold Sp.hintAsk
      rw [if_neg nl1]
    refine ⟨fun q43 => ?_, fun q43 => ?_⟩
    · have nI : Ob.lft h ≠ Ob.induct := fun q => q43 (kI.mpr q)
      rw [if_neg nI] at hask
      unfold pv_8_hintsAsked_118
      refine ⟨fun q26 => ?_, fun q26 => ?_⟩
      · have nU : Ob.lft h ≠ Ob.use := fun q => q26 (kU.mpr q)
        rw [if_neg nU] at hask
        refine ⟨fun q24 => ?_, fun q24 => ?_⟩
        · have nO : Ob.lft h ≠ Ob.off := fun q => q24 (kO.mpr q)
          rw [if_neg nO] at hask
          exact two y x3 rfl hask.symm
        · have yO := kO.mp (Decidable.not_not.mp q24)
          rw [if_pos yO] at hask
          refine ⟨fun qx => ?_, fun qx => ?_⟩
          · rw [if_pos (h3.mp qx)] at hask
            exact two y x3 rfl hask.symm
          · have qx := Decidable.not_not.mp qx
            have of : ¬ o = true := fun q => absurd qx (h3.mpr q)
            rw [if_neg of] at hask
            have ho : Sp.offAsk E h = offW E (Ob.toList (Ob.rgt h)) := by
              unfold Sp.offAsk offW
              by_cases c : (Ob.toList (Ob.rgt h)).all Ob.isName = true
              · rw [if_pos ⟨hl2, c⟩, if_pos c]
              · rw [if_neg (fun q => c q.2), if_neg c]
            refine pc_right gy.1 vv2 (fun v7 vv7 e7 => ?_)
            rw [e2] at e7
            refine pc_offAsked gy.1 (hTo.mono hT gy (gy.2.2.1 1 (by decide)) (fun k h1 h2 => gy.2.2.2 k (by unfold f8p; simp only [Bool.or_eq_false_iff, decide_eq_false_iff_not]; omega)) (gy.2.2.2 50 (by decide))) vv7 ?_
            rw [e7, ← ho, ← hask]
            refine fin y _ 1 (CG.rf gy.1) ya (by omega) rfl (fun _ => ⟨?_, ?_⟩)
            · rw [decide_eq_true yO, Bool.or_true]
              exact ⟨fun _ => rfl, fun _ => by decide⟩
            · obtain ⟨k1, k2⟩ := keep y (CG.rf gy.1) rfl nI
              refine ⟨k1, fun q => ?_⟩
              obtain ⟨h', b1, b2, b3, b4⟩ := k2 q
              exact ⟨h', b1, b2, b3, fun q2 q3 => b4 q2 _ q3⟩
      · have yU := kU.mp (Decidable.not_not.mp q26)
        rw [if_pos yU] at hask
        have hu : Sp.useAsk E h = useW E (Ob.item h 1) (Ob.rgt (Ob.rgt h)) := by
          unfold Sp.useAsk useW
          by_cases c : Ob.isName (Ob.item h 1) = true
          · rw [if_pos ⟨hl2, c⟩, if_pos c]
            rfl
          · rw [if_neg (fun q => c q.2), if_neg c]
        refine pc_item gy.1 vv2 (by decide) (fun v9 vv9 e9 => ?_)
        rw [e2] at e9
        have e9 : oc y v9 = Ob.item h 1 := e9
        refine pc_right gy.1 vv2 (fun v10 vv10 e10 => ?_)
        rw [e2] at e10
        refine pc_right gy.1 vv10 (fun v11 vv11 e11 => ?_)
        rw [e10] at e11
        have hDy := hD.mono hT gy (gy.2.2.1 0 (by decide)) (fun k hk => gy.2.2.2 k (by unfold f8p; simp only [Bool.or_eq_false_iff, decide_eq_false_iff_not]; omega))
        have hTy := hTo.mono hT gy (gy.2.2.1 1 (by decide)) (fun k h1 h2 => gy.2.2.2 k (by unfold f8p; simp only [Bool.or_eq_false_iff, decide_eq_false_iff_not]; omega)) (gy.2.2.2 50 (by decide))
        refine pc_useAsked gy.1 hDy hTy (fun j hj => ?_) ((gy.2.2.1 37 (by decide)).trans h37) hs0 vv9 vv11 (by rw [e11]; exact len_rr hl2) (by rw [e11]; exact hwh.1) (by rw [e11]; exact hwh.2) ya (by rw [e11]; omega) (fun w gw wa w29 => ?_)
        · rw [gy.2.2.1 1 (by decide)] at hj
          rw [gy.2.2.2 6 (by decide)]
          exact ((hFm j hj).up hT gy).1
        rw [e11] at w29
        rw [e9, e11, ← hu, ← hask]
        have gw' : CG f8a f8p y w := gw.mono f8Y_a (fun _ h => h)
        refine fin w _ x3 gw' wa w29 rfl (fun _ => ⟨?_, ?_⟩)
        · rw [decide_eq_false (fun q => kUO (yU.symm.trans q)), Bool.or_false]
          exact h3
        · obtain ⟨k1, k2⟩ := keep w gw' (gw.2.2.1 36 (by decide)) nI
          refine ⟨k1, fun q => ?_⟩
          obtain ⟨h', b1, b2, b3, b4⟩ := k2 q
          exact ⟨h', b1, b2, b3, fun q2 q3 => b4 q2 _ q3⟩
    · have yI := kI.mp (Decidable.not_not.mp q43)
      have v43 := Decidable.not_not.mp q43
      rw [if_pos yI] at hask
      have out118 : (2 : Int) = Sp.hintAsk E h i o → pv_8_hintsAsked_118 (fun x2 x3 x4 y => ∃ (pre rest : List Ob) (i o : Bool), hs = pre ++ rest ∧ (x2 = 0 ∨ x2 = 3) ∧ (x3 ≠ 0 ↔ o = true) ∧ CG f8a f8p u y ∧ y.1 32 = 0 ∧ VN y x4 ∧ Ob.toList (oc y x4) = rest ∧ y.1 29 + cpH rest ≤ u.1 29 + cpH hs ∧ (y.1 36 = -1 ↔ i = false) ∧ (i = pre.any (fun h => decide (Ob.lft h = Ob.induct))) ∧ (i = true → ∃ h, VN y (y.1 36) ∧ oc y (y.1 36) = Ob.item h 1 ∧ pre.find? (fun h => decide (Ob.lft h = Ob.induct)) = some h ∧ (x2 = 0 → Sp.indAsk E (Ob.item h 1) = 0)) ∧ Sp.hintsGo E hs false false 0 = Sp.hintsGo E rest i o x2) Q x2 x3 x4 v2 v4 2 y := fun h2' => by
        unfold pv_8_hintsAsked_118
        exact ⟨fun _ => ⟨fun _ => two y x3 rfl h2', fun q => absurd (show v4 ≠ 24 by omega) q⟩, fun q => absurd (show v4 ≠ 26 by omega) q⟩
      refine ⟨fun ql => out118 (by rw [hask, if_pos (Or.inr ql)]), fun ql => ?_⟩
      have ql := Decidable.not_not.mp ql
      intro v13 e13 _
      refine ⟨fun qi => out118 ?_, fun qi => ?_⟩
      · have : i = true := by
          cases hib : i with
          | true => rfl
          | false => exact absurd (e13.trans (h36.mpr hib)) qi
        rw [hask, if_pos (Or.inl this)]
      have qi := Decidable.not_not.mp qi
      have hib : i = false := h36.mp (e13 ▸ qi)
      rw [if_neg (fun q => by rcases q with q | q; (rw [hib] at q; cases q); exact q ql)] at hask
      refine pc_item gy.1 vv2 (by decide) (fun v14 vv14 e14 => ?_)
      rw [e2] at e14
      have e14 : oc y v14 = Ob.item h 1 := e14
      intro y1 ey1 v15 e15 _
      have g1 : CG f8a f8p y y1 := by rw [ey1]; exact CG_I gy.1 (by decide) (by decide)
      have n36' : y1.1 36 = v14 := by rw [ey1, iIc_at]
      rw [n36'] at e15
      rw [e15]
      have c1 : oc y1 v14 = Ob.item h 1 := (oc_same (by rw [ey1]; rfl) v14).trans e14
      have gu1 := gy.tr g1
      refine pc_inductionAsked g1.1 (hD.mono hT gu1 (gu1.2.2.1 0 (by decide)) (fun k hk => gu1.2.2.2 k (by unfold f8p; simp only [Bool.or_eq_false_iff, decide_eq_false_iff_not]; omega))) (vv14.up g1) ?_
      rw [c1, ← hask]
      have n29' : y1.1 29 = y.1 29 := by rw [ey1]; rfl
      refine fin y1 _ x3 g1 (by rw [ey1]; exact ya) (by omega) rfl (fun _ => ⟨?_, ?_, ?_⟩)
      · rw [decide_eq_false (fun q => kIO (yI.symm.trans q)), Bool.or_false]
        exact h3
      · rw [decide_eq_true yI, Bool.or_true, n36']
        exact ⟨fun q => by have := vv14.1; omega, fun q => by cases q⟩
      · intro _
        refine ⟨h, by rw [n36']; exact vv14.up g1, by rw [n36']; exact c1, ?_, fun _ q => by rw [← hask]; exact q⟩
        have hnone : pre.find? (fun h => decide (Ob.lft h = Ob.induct)) = none := by
          refine List.find?_eq_none.mpr (fun h' hm hh => ?_)
          have : pre.any (fun h => decide (Ob.lft h = Ob.induct)) = true := List.any_eq_true.mpr ⟨h', hm, hh⟩
          rw [← hi, hib] at this
          cases this
        rw [List.find?_append, hnone, Option.none_or, List.find?_cons_of_pos (by exact decide_eq_true yI)]
