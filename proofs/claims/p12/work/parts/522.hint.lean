-- deps: 521
/-! the reference: hints, one by one -/
theorem hintAsk_range [DecidableEq Ob] (E : Sp.Env) (h : Ob) (i o : Bool) : Sp.hintAsk E h i o = 0 ∨ Sp.hintAsk E h i o = 2 ∨ Sp.hintAsk E h i o = 3 := by
  have r1 : ∀ c, Sp.indAsk E c = 0 ∨ Sp.indAsk E c = 2 ∨ Sp.indAsk E c = 3 := fun c => by
    unfold Sp.indAsk
    split
    · split
      · exact Or.inr (Or.inr rfl)
      · split
        · exact Or.inl rfl
        · exact Or.inr (Or.inl rfl)
    · exact Or.inr (Or.inl rfl)
  have r2 : Sp.useAsk E h = 0 ∨ Sp.useAsk E h = 2 ∨ Sp.useAsk E h = 3 := by
    unfold Sp.useAsk
    split
    · split
      · exact Or.inr (Or.inl rfl)
      · split
        · exact Or.inr (Or.inr rfl)
        · split
          · exact Or.inl rfl
          · exact Or.inr (Or.inl rfl)
    · exact Or.inr (Or.inl rfl)
  have r3 : Sp.offAsk E h = 0 ∨ Sp.offAsk E h = 2 ∨ Sp.offAsk E h = 3 := by
    unfold Sp.offAsk
    split
    · split
      · exact Or.inl rfl
      · exact Or.inr (Or.inr rfl)
    · exact Or.inr (Or.inl rfl)
  unfold Sp.hintAsk
  split
  · exact Or.inr (Or.inl rfl)
  · split
    · split
      · exact Or.inr (Or.inl rfl)
      · exact r1 _
    · split
      · exact r2
      · split
        · split
          · exact Or.inr (Or.inl rfl)
          · exact r3
        · exact Or.inr (Or.inl rfl)
theorem hintsGo_snoc [DecidableEq Ob] (E : Sp.Env) : ∀ (hs : List Ob) (h : Ob) (i o : Bool) (a : Int), (a = 0 ∨ a = 3) → Sp.hintsGo E (hs ++ [h]) i o a = if Sp.hintsGo E hs i o a = 2 then 2 else if Sp.hintAsk E h (i || hs.any (fun x => decide (Ob.lft x = Ob.induct))) (o || hs.any (fun x => decide (Ob.lft x = Ob.off))) = 2 then 2 else if Sp.hintsGo E hs i o a = 3 then 3 else Sp.hintAsk E h (i || hs.any (fun x => decide (Ob.lft x = Ob.induct))) (o || hs.any (fun x => decide (Ob.lft x = Ob.off)))
  | [], h, i, o, a, ha => by
    show (if Sp.hintAsk E h i o = 2 then (2 : Int) else if a = 3 then 3 else Sp.hintAsk E h i o) = if a = 2 then 2 else if Sp.hintAsk E h (i || false) (o || false) = 2 then 2 else if a = 3 then 3 else Sp.hintAsk E h (i || false) (o || false)
    rw [Bool.or_false, Bool.or_false, if_neg (show ¬ a = 2 by omega)]
  | x :: hs, h, i, o, a, ha => by
    have r := hintAsk_range E x i o
    show (if Sp.hintAsk E x i o = 2 then (2 : Int) else Sp.hintsGo E (hs ++ [h]) (i || decide (Ob.lft x = Ob.induct)) (o || decide (Ob.lft x = Ob.off)) (if a = 3 then 3 else Sp.hintAsk E x i o)) = _
    by_cases c : Sp.hintAsk E x i o = 2
    · have e2 : Sp.hintsGo E (x :: hs) i o a = 2 := if_pos c
      rw [if_pos c, if_pos e2]
    · have e : Sp.hintsGo E (x :: hs) i o a = Sp.hintsGo E hs (i || decide (Ob.lft x = Ob.induct)) (o || decide (Ob.lft x = Ob.off)) (if a = 3 then 3 else Sp.hintAsk E x i o) := if_neg c
      rw [if_neg c, e, hintsGo_snoc E hs h _ _ _ (by split <;> omega), List.any_cons, List.any_cons, Bool.or_assoc, Bool.or_assoc]
theorem hintsGo_range [DecidableEq Ob] (E : Sp.Env) : ∀ (hs : List Ob) (i o : Bool) (a : Int), (a = 0 ∨ a = 3) → (Sp.hintsGo E hs i o a = 0 ∨ Sp.hintsGo E hs i o a = 2 ∨ Sp.hintsGo E hs i o a = 3)
  | [], i, o, a, ha => by
    show a = 0 ∨ a = 2 ∨ a = 3
    omega
  | x :: hs, i, o, a, ha => by
    have r := hintAsk_range E x i o
    by_cases c : Sp.hintAsk E x i o = 2
    · rw [show Sp.hintsGo E (x :: hs) i o a = 2 from if_pos c]; exact Or.inr (Or.inl rfl)
    · rw [show Sp.hintsGo E (x :: hs) i o a = _ from if_neg c]
      exact hintsGo_range E hs _ _ _ (by split <;> omega)
/-- what is wrong, worse first -/
def wrs [DecidableEq Ob] (w a : Int) : Int := if a = 0 then w else if w = 0 ∨ a < w then a else w
def f7N (k : Nat) : Bool := f7M k || f7W k || decide (k = 53) || decide (133 ≤ k ∧ k ≤ 139)
theorem f7M_N [DecidableEq Ob] : ∀ k, f7N k = false → f7M k = false := by
  intro k h
  unfold f7N at h
  rw [Bool.or_eq_false_iff, Bool.or_eq_false_iff, Bool.or_eq_false_iff] at h
  exact h.1.1.1
theorem f7W_N [DecidableEq Ob] : ∀ k, f7N k = false → f7W k = false := by
  intro k h
  unfold f7N at h
  rw [Bool.or_eq_false_iff, Bool.or_eq_false_iff, Bool.or_eq_false_iff] at h
  exact h.1.1.2
theorem p_wrong [DecidableEq Ob] {a : Int} {Q : iST → Prop} {u : iST} (hT : TI u) (hU : TU u) (ha : a = 2 ∨ a = 3) (hq : ∀ v, GZ f7N u v → v.2 = u.2 → (∀ k, k ≠ 136 → v.1 k = u.1 k) → v.1 136 = wrs (u.1 136) a → Q v) : pw_wrong a Q u := by
  have set : (u.1 136 = 0 ∨ a < u.1 136) → pw_wrong_15 Q a u := by
    intro hc
    unfold pw_wrong_15
    intro v ev
    refine hq v ?_ (by rw [ev]; rfl) (fun k hk => by rw [ev]; exact if_neg hk) ?_
    · rw [ev]; exact GZ_eq (GZ.rf hT hU) (fun k hk => ⟨if_neg (by omega), rfl⟩) rfl (Fx_I (by decide))
    · rw [ev]
      show a = _
      unfold wrs
      rw [if_neg (by omega), if_pos hc]
  unfold pw_wrong
  intro x ex _
  refine ⟨fun hz => set (Or.inl (by omega)), fun hz => ?_⟩
  intro y ey _
  refine ⟨fun hz2 => hq u (GZ.rf hT hU) rfl (fun _ _ => rfl) ?_, fun hz2 => set (Or.inr (by omega))⟩
  unfold wrs
  rw [if_neg (by omega), if_neg (by omega)]
/-- what (f v ..) of an induction gives -/
def InG [DecidableEq Ob] (v : iST) (E : Sp.Env) (c : Ob) : Prop := ∃ d, 0 ≤ d ∧ d < v.1 35 ∧ v.1 133 = 100 + d ∧ v.2.1 41 d ≠ 0 ∧ E.dfn (Ob.lft c) = some (dfn1 v d) ∧ 0 ≤ v.1 134 ∧ v.1 134 < v.1 8 ∧ ob v (v.1 134) = Ob.rgt c ∧ Ob.len (Ob.rgt c) = v.2.1 37 d ∧ Sp.areVars (Ob.toList (Ob.rgt c)) = true
theorem len_rgt [DecidableEq Ob] {c : Ob} (h : c.isPr = true) : 1 ≤ c.len ↔ (Ob.rgt c).len ≠ -1 := by
  cases c with
  | var x => cases h
  | op a b =>
    have := Ob.len_low b
    show 1 ≤ Ob.len (.pr a b) ↔ Ob.len b ≠ -1
    rw [Ob.len_pr]
    split <;> omega
theorem len_isPr [DecidableEq Ob] {c : Ob} (h : 1 ≤ c.len) : c.isPr = true := by
  cases c with
  | var x => rw [Ob.len_var] at h; split at h <;> omega
  | op a b => rfl
theorem p_induction [DecidableEq Ob] {h : Int} {Q : iST → Prop} {u : iST} {E : Sp.Env} (hT : TI u) (hU : TU u) (hD : DOk u E) (h0 : 0 ≤ h) (h1 : h < u.1 8) (hl : 1 ≤ (ob u h).len) (hle : (Ob.rgt (Ob.item (ob u h) 1)).len ≤ 1000)
    (hq : ∀ v a, GZ f7N u v → v.2 = u.2 → (∀ k, k ≠ 133 → k ≠ 134 → k ≠ 136 → v.1 k = u.1 k) → a = (if u.1 133 ≠ -1 ∨ (ob u h).len ≠ 2 then 2 else Sp.indAsk E (Ob.item (ob u h) 1)) → v.1 136 = wrs (u.1 136) a → (a ≠ 2 → v.1 133 ≠ -1) → (a = 0 → InG v E (Ob.item (ob u h) 1)) → Q v) : pw_induction h Q u := by
  -- it is not as told
  have no : (if u.1 133 ≠ -1 ∨ (ob u h).len ≠ 2 then (2 : Int) else Sp.indAsk E (Ob.item (ob u h) 1)) = 2 → pw_induction_73 Q h u := by
    intro ha
    unfold pw_induction_73 pw_induction_74
    refine ⟨fun z => absurd rfl z, fun _ => ?_⟩
    exact p_wrong hT hU (Or.inl rfl) (fun v gv v2 vn v136 => hq v 2 gv v2 (fun k _ _ c => vn k c) ha.symm v136 (fun z => absurd rfl z) (fun z => by cases z))
  unfold pw_induction
  refine p_lengthOf hT hU h0 h1 ⟨fun hz => no (by rw [if_pos (Or.inr hz)]), fun hz => ?_⟩
  have h2 : (ob u h).len = 2 := Decidable.not_not.mp hz
  have it : ∀ (P : Int → iST → Prop), (∀ k, 0 ≤ k → k < u.1 8 → ob u k = Ob.item (ob u h) 1 → P k u) → pw_nth h 1 P u := fun P hP => p_nthL hT h0 h1 (by decide) (by rw [h2]; decide) (fun k k0 k1 ek => hP k k0 k1 ek)
  refine it _ (fun c c0 c1 ec => ?_)
  refine p_isPair hT c0 c1 (fun b hb => ⟨fun hz2 => no ?_, fun hz2 => ?_⟩)
  · rw [ec] at hb
    by_cases q : u.1 133 ≠ -1 ∨ (ob u h).len ≠ 2
    · rw [if_pos q]
    · rw [if_neg q]
      unfold Sp.indAsk
      rw [if_neg (fun z => by have := len_isPr z.1; rw [hb.f hz2] at this; cases this)]
  have hpr : (Ob.item (ob u h) 1).isPr = true := by rw [← ec]; exact hb.t hz2
  refine it _ (fun c' c0' c1' ec' => ?_)
  obtain ⟨f0, f1, _, _, ef, _, _⟩ := ob_lft hT c0' c1' (by rw [ec']; exact hpr)
  rw [ec'] at ef
  intro _ _ y ey _
  rw [ey]
  refine p_isNewName hT hU f0 (by omega) (fun b2 hb2 => ⟨fun hz3 => no ?_, fun hz3 => ?_⟩)
  · by_cases q : u.1 133 ≠ -1 ∨ (ob u h).len ≠ 2
    · rw [if_pos q]
    · rw [if_neg q]
      unfold Sp.indAsk
      rw [if_neg (fun z => by have := z.2.1; rw [ef, hb2.f hz3] at this; cases this)]
  have hnm : Ob.isName (Ob.lft (Ob.item (ob u h) 1)) = true := by rw [ef]; exact hb2.t hz3
  refine it _ (fun c3 c30 c31 ec3 => ?_)
  obtain ⟨_, _, r0, r1, _, er, _⟩ := ob_lft hT c30 c31 (by rw [ec3]; exact hpr)
  rw [ec3] at er
  intro _ _ y2 ey2 _
  rw [ey2]
  refine p_areVariables hT hU r0 (by omega) (fun b3 hb3 => ?_)
  rw [← er] at hb3
  have hcond : b3 ≠ 0 ↔ (1 ≤ Ob.len (Ob.item (ob u h) 1) ∧ Ob.isName (Ob.lft (Ob.item (ob u h) 1)) = true ∧ Sp.areVars (Ob.toList (Ob.rgt (Ob.item (ob u h) 1))) = true) := by
    have : b3 ≠ 0 ↔ (decide ((Ob.rgt (Ob.item (ob u h) 1)).len ≠ -1) && decide ((Ob.rgt (Ob.item (ob u h) 1)).len ≤ 1000) && Sp.areVars (Ob.toList (Ob.rgt (Ob.item (ob u h) 1)))) = true := ⟨fun z => hb3.t z, fun z q => by rw [hb3.f q] at z; cases z⟩
    rw [this, Bool.and_eq_true, Bool.and_eq_true, decide_eq_true_eq, decide_eq_true_eq, len_rgt hpr]
    exact ⟨fun z => ⟨z.1.1, hnm, z.2⟩, fun z => ⟨⟨z.1, hle⟩, z.2.2⟩⟩
  refine ⟨fun hz4 => no ?_, fun hz4 => ?_⟩
  · by_cases q : u.1 133 ≠ -1 ∨ (ob u h).len ≠ 2
    · rw [if_pos q]
    · rw [if_neg q]
      unfold Sp.indAsk
      rw [if_neg (fun z => (hcond.mpr z) hz4)]
  have hform := hcond.mp hz4
  intro y3 ey3 _
  rw [ey3]
  refine ⟨fun hz5 => no (by rw [if_pos (Or.inl hz5)]), fun hz5 => ?_⟩
  have h133 : u.1 133 = -1 := Decidable.not_not.mp hz5
  have hask : (if u.1 133 ≠ -1 ∨ (ob u h).len ≠ 2 then (2 : Int) else Sp.indAsk E (Ob.item (ob u h) 1)) = (match E.dfn (Ob.lft (Ob.item (ob u h) 1)) with | none => 3 | some D => if D.meas.isSome = true ∧ (D.params.length : Int) = Ob.len (Ob.rgt (Ob.item (ob u h) 1)) then 0 else 2) := by
    rw [if_neg (by rw [h133, h2]; decide)]
    unfold Sp.indAsk
    rw [if_pos hform]
    cases E.dfn (Ob.lft (Ob.item (ob u h) 1)) <;> rfl
  unfold pw_induction_74
  refine ⟨fun _ => ?_, fun z => absurd (by decide) z⟩
  refine it _ (fun c4 c40 c41 ec4 => ?_)
  obtain ⟨_, _, s0, s1, _, es, _⟩ := ob_lft hT c40 c41 (by rw [ec4]; exact hpr)
  rw [ec4] at es
  intro _ _ y4 ey4 _ w1 ew1 w2 ew2
  have w2r : w2.2 = u.2 := by rw [ew2, ew1]; rfl
  have w2n : ∀ k, k ≠ 133 → k ≠ 134 → w2.1 k = u.1 k := fun k a b => by rw [ew2, ew1]; exact (if_neg a).trans (if_neg b)
  have w134 : w2.1 134 = u.2.1 1 c4 := by rw [ew2, ew1, ← ey4]; rfl
  have w133 : w2.1 133 = 0 := by rw [ew2]; rfl
  clear ew1 ew2 ey4
  have g2 : GZ f7N u w2 := GZ_eq (GZ.rf hT hU) (fun k hk => ⟨w2n k (by omega) (by omega), by rw [w2r]⟩) (by rw [w2r]) (fun k hk => by
    have a1 : k ≠ 133 := fun z => by rw [z] at hk; revert hk; decide
    have a2 : k ≠ 134 := fun z => by rw [z] at hk; revert hk; decide
    exact ⟨w2n k a1 a2, by rw [w2r]⟩)
  have eo2 : ∀ j, ob w2 j = ob u j := ob_same (by rw [w2r]) (by rw [w2r]) (by rw [w2r]) (by rw [w2r]) (by rw [w2r])
  have w28 : w2.1 8 = u.1 8 := w2n 8 (by decide) (by decide)
  have D2 : DOk w2 E := hD.mono hT g2 (DSm.of g2.2.2.2.2 (by decide) (by decide) (by decide) (by decide) (by decide) (by decide) (by decide))
  refine p_nthL g2.1 h0 (by omega) (by decide) (by rw [eo2, h2]; decide) (fun c5 c50 c51 ec5 => ?_)
  rw [eo2, eo2] at ec5
  have ec5 : ob u c5 = Ob.item (ob u h) 1 := ec5
  obtain ⟨t0, t1, _, _, et, _, _⟩ := ob_lft hT c50 (by omega) (by rw [ec5]; exact hpr)
  rw [ec5] at et
  intro _ _ y5 ey5 _
  have ey5 : y5 = u.2.1 0 c5 := by rw [ey5, w2r]
  rw [ey5]
  -- in the end
  have out : ∀ (v : iST) (a : Int), GZ f7N w2 v → v.2 = w2.2 → (∀ k, k ≠ 133 → k ≠ 136 → v.1 k = w2.1 k) → a = (if u.1 133 ≠ -1 ∨ (ob u h).len ≠ 2 then 2 else Sp.indAsk E (Ob.item (ob u h) 1)) → v.1 136 = wrs (u.1 136) a → v.1 133 ≠ -1 → (a = 0 → InG v E (Ob.item (ob u h) 1)) → Q v := by
    intro v a gv v2 vn ha v136 v133 hg
    exact hq v a (g2.tr gv) (v2.trans w2r) (fun k b c d => (vn k b d).trans (w2n k b c)) ha v136 (fun _ => v133) hg
  have bad : ∀ a, (a = 2 ∨ a = 3) → a = (if u.1 133 ≠ -1 ∨ (ob u h).len ≠ 2 then 2 else Sp.indAsk E (Ob.item (ob u h) 1)) → pw_wrong a Q w2 := by
    intro a ha hae
    refine p_wrong g2.1 g2.2.1 ha (fun v gv v2 vn v136 => out v a gv v2 (fun k _ c => vn k c) hae (by rw [v136, w2n 136 (by decide) (by decide)]) (by rw [vn 133 (by decide), w133]; decide) (fun z => by omega))
  refine p_definition g2.1 g2.2.1 D2 t0 (by omega) (fun hdn => ?_) (fun d d0 d1 ed hds => ?_)
  · rw [eo2, ← et] at hdn
    exact ⟨fun z => absurd rfl z, fun _ => bad 3 (Or.inr rfl) (by rw [hask, hdn])⟩
  rw [eo2, ← et] at hds
  refine ⟨fun _ => ?_, fun z => by have := Decidable.not_not.mp z; omega⟩
  have b160 : (if (dfn1 w2 d).meas.isSome = true ∧ ((dfn1 w2 d).params.length : Int) = Ob.len (Ob.rgt (Ob.item (ob u h) 1)) then (0 : Int) else 2) = 2 → pw_induction_160 Q w2 := by
    intro ha
    unfold pw_induction_160
    exact bad 2 (Or.inl rfl) (by rw [hask, hds]; exact ha.symm)
  have lp : ((dfn1 w2 d).params.length : Int) = w2.2.1 37 d := by
    have := (D2.2.2 d d0 d1).2.1.1
    show ((prm w2 d).length : Int) = _
    unfold prm; simp; omega
  have hmeas : (dfn1 w2 d).meas.isSome = true ↔ w2.2.1 41 d ≠ 0 := by
    show (if w2.2.1 41 d ≠ 0 then some (ob w2 (w2.2.1 40 d)) else none).isSome = true ↔ _
    split
    · next q => exact ⟨fun _ => q, fun _ => rfl⟩
    · next q => exact ⟨fun z => (by cases z), fun z => absurd z q⟩
  intro _ _ y6 ey6 _
  rw [ey6]
  refine ⟨fun hz6 => b160 (if_neg (fun z => hmeas.mp z.1 hz6)), fun hz6 => ?_⟩
  intro y7 ey7 _
  rw [w134] at ey7
  rw [ey7]
  refine p_lengthOf g2.1 g2.2.1 s0 (by omega) ?_
  rw [eo2, ← es]
  intro _ _ y8 ey8 _
  rw [ey8]
  refine ⟨fun hz7 => ?_, fun hz7 => b160 (if_neg (fun z => hz7 (by rw [← z.2, lp])))⟩
  intro _ v ev
  have gv : GZ f7N w2 v := by rw [ev]; exact GZ_eq (GZ.rf g2.1 g2.2.1) (fun k hk => ⟨if_neg (by omega), rfl⟩) rfl (Fx_I (by decide))
  have v2 : v.2 = w2.2 := by rw [ev]; rfl
  have vn : ∀ k, k ≠ 133 → v.1 k = w2.1 k := fun k hk => by rw [ev]; exact if_neg hk
  have v133 : v.1 133 = 100 + d := by rw [ev]; rfl
  clear ev
  have eov : ∀ j, ob v j = ob w2 j := ob_same (by rw [v2]) (by rw [v2]) (by rw [v2]) (by rw [v2]) (by rw [v2])
  refine out v 0 gv v2 (fun k a _ => vn k a) ?_ ?_ (by rw [v133]; omega) (fun _ => ⟨d, d0, by rw [vn 35 (by decide)]; exact d1, v133, by rw [v2]; exact hz6, ?_, by rw [vn 134 (by decide), w134]; exact s0, by rw [vn 134 (by decide), w134, vn 8 (by decide)]; omega, by rw [vn 134 (by decide), w134, eov, eo2]; exact es.symm, by rw [v2]; exact hz7, hform.2.2⟩)
  · rw [hask, hds]
    show (0 : Int) = if _ then _ else _
    rw [if_pos ⟨hmeas.mpr hz6, by rw [lp]; exact hz7.symm⟩]
  · rw [vn 136 (by decide), w2n 136 (by decide) (by decide)]; rfl
  · rw [hds]
    exact congrArg some (by
      unfold dfn1 prm
      rw [v2]
      simp only [eov])
