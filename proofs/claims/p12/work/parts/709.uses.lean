-- deps: 708
/-! the class: instances, replacements, readings -/
theorem itN_len [DecidableEq Ob] : ∀ {o : Ob}, o.len ≠ -1 → itN o = o.len
  | .var x, h => by
    rw [Ob.len_var] at h ⊢
    by_cases c : .var x = Ob.nil
    · rw [if_pos c]; rfl
    · rw [if_neg c] at h; exact absurd rfl h
  | .op a b, h => by
    have e : Ob.len (.op a b) = if Ob.len b = -1 then -1 else Ob.len b + 1 := rfl
    rw [e] at h ⊢
    by_cases c : Ob.len b = -1
    · rw [if_pos c] at h; exact absurd rfl h
    · rw [if_neg c]
      have := itN_len c
      show 1 + itN b = _
      omega
theorem dp_sz [DecidableEq Ob] : ∀ (m : Bool) (o : Ob), dpM m o ≤ Ob.szM m o
  | true, .op a b => by
    have h1 := dp_sz false a
    have h2 := dp_sz true b
    have p1 := (Ob.szM_pos false a).1
    have p2 := (Ob.szM_pos true b).1
    show (if dpM false a ≤ dpM true b then dpM true b else dpM false a) ≤ Ob.szM false a + Ob.szM true b
    split <;> omega
  | true, .var _ => Int.le_refl _
  | false, .op a b => by
    have h2 := dp_sz true b
    show (if a = Ob.quote then 0 else 1 + dpM true b) ≤ (if a = Ob.quote then 1 else 1 + Ob.szM true b)
    split <;> omega
  | false, .var _ => by show (0 : Int) ≤ 1; decide
theorem call_nq [DecidableEq Ob] {a b : Ob} (h : Ob.isCall (.pr a b) = true) : a ≠ Ob.quote := of_decide_eq_true h
theorem ok6_F [DecidableEq Ob] {l : List (Ob × Ob)} {ar : Ob → Int} (h6 : ∀ f, ar f ≤ 6) : ∀ (m : Bool) (o : Ob), Ob.wtM ar m o → ok6 (muF l) m o
  | true, .op a b, h => ⟨ok6_F h6 false a h.1, ok6_F h6 true b h.2⟩
  | true, .var _, _ => trivial
  | false, .op a b, h => by
    intro hm
    have hc : Ob.isCall (.pr a b) = true := by
      by_cases c : Ob.isCall (.pr a b) = true
      · exact c
      · unfold muF at hm
        rw [if_neg c] at hm
        split at hm <;> cases hm
    have nq := call_nq hc
    obtain ⟨h1, h2, h3⟩ := h.2 nq
    have hl : Ob.len b ≠ -1 := ((Ob.wt_row b).mp h3).1
    have := h6 a
    exact ⟨nq, by rw [itN_len hl]; omega, ok6_F h6 true b h3⟩
  | false, .var _, _ => trivial
theorem ok6_P [DecidableEq Ob] {x y : Ob} {ar : Ob → Int} (h6 : ∀ f, ar f ≤ 6) : ∀ (m : Bool) (o : Ob), Ob.wtM ar m o → ok6 (muP x y) m o
  | true, .op a b, h => ⟨ok6_P h6 false a h.1, ok6_P h6 true b h.2⟩
  | true, .var _, _ => trivial
  | false, .op a b, h => by
    intro hm
    have hc : Ob.isCall (.pr a b) = true := by
      by_cases c : Ob.isCall (.pr a b) = true
      · exact c
      · unfold muP at hm
        rw [if_neg c] at hm
        split at hm <;> cases hm
    have nq := call_nq hc
    obtain ⟨h1, h2, h3⟩ := h.2 nq
    have hl : Ob.len b ≠ -1 := ((Ob.wt_row b).mp h3).1
    have := h6 a
    exact ⟨nq, by rw [itN_len hl]; omega, ok6_P h6 true b h3⟩
  | false, .var _, _ => trivial
theorem ok6_R [DecidableEq Ob] {ar : Ob → Int} (h6 : ∀ f, ar f ≤ 6) : ∀ (m : Bool) (o : Ob), ok6 (muR ar) m o
  | true, .op a b => ⟨ok6_R h6 false a, ok6_R h6 true b⟩
  | true, .var _ => trivial
  | false, .op a b => by
    intro hm
    have hm : (if a = Ob.quote then (if Ob.isQuoted (.pr a b) then some (some (Ob.constOf (Ob.lft b))) else none) else if ar a = -1 ∨ Ob.len b ≠ ar a then none else some none) = some none := hm
    by_cases c : a = Ob.quote
    · rw [if_pos c] at hm
      split at hm <;> cases hm
    · rw [if_neg c] at hm
      by_cases q : ar a = -1 ∨ Ob.len b ≠ ar a
      · rw [if_pos q] at hm; cases hm
      · have h1 : ar a ≠ -1 := fun z => q (Or.inl z)
        have h2 : Ob.len b = ar a := Decidable.not_not.mp (fun z => q (Or.inr z))
        have := h6 a
        exact ⟨c, by rw [itN_len (by omega)]; omega, ok6_R h6 true b⟩
  | false, .var _ => trivial
/-- instances: too big, or as told -/
theorem rbF_eq [DecidableEq Ob] {l : List (Ob × Ob)} {ar : Ob → Int} (hl : ∀ x, Ob.isVar x = true → (Ob.lkD l x).sz ≤ 120) : ∀ (m : Bool) (o : Ob), Ob.wtM ar m o → (∀ y, rbM (muF l) m o = some y → y = Ob.sbM (Ob.lkD l) m o ∧ (m = false → Ob.szM m y ≤ 120)) ∧ (rbM (muF l) m o = none → 120 < Ob.szM m (Ob.sbM (Ob.lkD l) m o))
  | true, .var x, h => by
    have h : .var x = Ob.nil := h
    refine ⟨fun y hy => ?_, fun hy => by cases hy⟩
    have hy : some Ob.nil = some y := hy
    exact ⟨by rw [← Option.some.inj hy]; exact h.symm, fun z => by cases z⟩
  | true, .op a b, h => by
    obtain ⟨a1, a2⟩ := rbF_eq hl false a h.1
    obtain ⟨b1, b2⟩ := rbF_eq hl true b h.2
    have e : rbM (muF l) true (.op a b) = (match rbM (muF l) false a with | some x => (match rbM (muF l) true b with | some y => some (Ob.pr x y) | none => none) | none => none) := rfl
    have es : Ob.szM true (Ob.sbM (Ob.lkD l) true (.op a b)) = Ob.szM false (Ob.sbM (Ob.lkD l) false a) + Ob.szM true (Ob.sbM (Ob.lkD l) true b) := rfl
    have pa := (Ob.szM_pos false (Ob.sbM (Ob.lkD l) false a)).1
    have pb := (Ob.szM_pos true (Ob.sbM (Ob.lkD l) true b)).1
    rw [e, es]
    cases ea : rbM (muF l) false a with
    | none =>
      refine ⟨fun y hy => (by cases hy), fun _ => ?_⟩
      have := a2 ea
      omega
    | some x =>
      cases eb : rbM (muF l) true b with
      | none =>
        refine ⟨fun y hy => (by cases hy), fun _ => ?_⟩
        have := b2 eb
        omega
      | some y =>
        refine ⟨fun z hz => ?_, fun hz => (by cases hz)⟩
        have hz : some (Ob.pr x y) = some z := hz
        rw [← Option.some.inj hz, (a1 x ea).1, (b1 y eb).1]
        exact ⟨rfl, fun q => by cases q⟩
  | false, .var x, h => by
    have e : rbM (muF l) false (.var x) = (match muF l (.var x) with | some (some x) => some x | _ => none) := rfl
    have em : muF l (.var x) = if Ob.isVar (.var x) then some (some (Ob.lkD l (.var x))) else some (some (.var x)) := rfl
    have es : Ob.sbM (Ob.lkD l) false (.var x) = if Ob.isVar (.var x) then Ob.lkD l (.var x) else .var x := rfl
    rw [e, em, es]
    by_cases c : Ob.isVar (.var x) = true
    · rw [if_pos c, if_pos c]
      refine ⟨fun y hy => ?_, fun hy => (by cases hy)⟩
      have hy : some (Ob.lkD l (.var x)) = some y := hy
      rw [← Option.some.inj hy]
      exact ⟨rfl, fun _ => hl _ c⟩
    · rw [if_neg c, if_neg c]
      refine ⟨fun y hy => ?_, fun hy => (by cases hy)⟩
      have hy : some (.var x) = some y := hy
      rw [← Option.some.inj hy]
      exact ⟨rfl, fun _ => by show (1 : Int) ≤ 120; decide⟩
  | false, .op a b, h => by
    have e : rbM (muF l) false (.op a b) = (match muF l (.pr a b) with | some (some x) => some x | some none => (match rbM (muF l) true b with | some y => if Ob.sz (.pr a y) ≤ 120 then some (Ob.pr a y) else none | none => none) | none => none) := rfl
    have es : Ob.sbM (Ob.lkD l) false (.op a b) = if a = Ob.quote then .pr a b else .pr a (Ob.sbM (Ob.lkD l) true b) := rfl
    have em : muF l (.pr a b) = if decide (a ≠ Ob.quote) = true then some none else some (some (.pr a b)) := rfl
    rw [e, em, es]
    by_cases c : a = Ob.quote
    · rw [if_neg (by rw [decide_eq_false (fun z => z c)]; decide), if_pos c]
      refine ⟨fun y hy => ?_, fun hy => (by cases hy)⟩
      have hy : some (Ob.pr a b) = some y := hy
      rw [← Option.some.inj hy]
      refine ⟨rfl, fun _ => ?_⟩
      show (if a = Ob.quote then (1 : Int) else _) ≤ 120
      rw [if_pos c]; decide
    · rw [if_pos (decide_eq_true c), if_neg c]
      obtain ⟨b1, b2⟩ := rbF_eq hl true b (h.2 c).2.2
      have ez : Ob.szM false (.pr a (Ob.sbM (Ob.lkD l) true b)) = 1 + Ob.szM true (Ob.sbM (Ob.lkD l) true b) := if_neg c
      cases eb : rbM (muF l) true b with
      | none =>
        refine ⟨fun y hy => (by cases hy), fun _ => ?_⟩
        have := b2 eb
        omega
      | some y =>
        have ey := (b1 y eb).1
        show (∀ z, (if Ob.sz (.pr a y) ≤ 120 then some (Ob.pr a y) else none) = some z → _) ∧ ((if Ob.sz (.pr a y) ≤ 120 then some (Ob.pr a y) else none) = none → _)
        rw [ey]
        by_cases q : Ob.sz (.pr a (Ob.sbM (Ob.lkD l) true b)) ≤ 120
        · rw [if_pos q]
          refine ⟨fun z hz => ?_, fun hz => (by cases hz)⟩
          rw [← Option.some.inj hz]
          exact ⟨rfl, fun _ => q⟩
        · rw [if_neg q]
          refine ⟨fun z hz => (by cases hz), fun _ => ?_⟩
          have q : ¬ Ob.szM false (.pr a (Ob.sbM (Ob.lkD l) true b)) ≤ 120 := q
          omega
theorem rbP_eq [DecidableEq Ob] {x0 y0 : Ob} {ar : Ob → Int} (hy0 : y0.sz ≤ 120) : ∀ (m : Bool) (o : Ob), Ob.wtM ar m o → (∀ y, rbM (muP x0 y0) m o = some y → y = Ob.rpM x0 y0 m o ∧ (m = false → Ob.szM m y ≤ 120)) ∧ (rbM (muP x0 y0) m o = none → 120 < Ob.szM m (Ob.rpM x0 y0 m o))
  | true, .var x, h => by
    have h : .var x = Ob.nil := h
    refine ⟨fun y hy => ?_, fun hy => by cases hy⟩
    have hy : some Ob.nil = some y := hy
    exact ⟨by rw [← Option.some.inj hy]; exact h.symm, fun z => by cases z⟩
  | true, .op a b, h => by
    obtain ⟨a1, a2⟩ := rbP_eq hy0 false a h.1
    obtain ⟨b1, b2⟩ := rbP_eq hy0 true b h.2
    have e : rbM (muP x0 y0) true (.op a b) = (match rbM (muP x0 y0) false a with | some x => (match rbM (muP x0 y0) true b with | some y => some (Ob.pr x y) | none => none) | none => none) := rfl
    have es : Ob.szM true (Ob.rpM x0 y0 true (.op a b)) = Ob.szM false (Ob.rpM x0 y0 false a) + Ob.szM true (Ob.rpM x0 y0 true b) := rfl
    have pa := (Ob.szM_pos false (Ob.rpM x0 y0 false a)).1
    have pb := (Ob.szM_pos true (Ob.rpM x0 y0 true b)).1
    rw [e, es]
    cases ea : rbM (muP x0 y0) false a with
    | none =>
      refine ⟨fun y hy => (by cases hy), fun _ => ?_⟩
      have := a2 ea
      omega
    | some x =>
      cases eb : rbM (muP x0 y0) true b with
      | none =>
        refine ⟨fun y hy => (by cases hy), fun _ => ?_⟩
        have := b2 eb
        omega
      | some y =>
        refine ⟨fun z hz => ?_, fun hz => (by cases hz)⟩
        have hz : some (Ob.pr x y) = some z := hz
        rw [← Option.some.inj hz, (a1 x ea).1, (b1 y eb).1]
        exact ⟨rfl, fun q => by cases q⟩
  | false, .var x, h => by
    have e : rbM (muP x0 y0) false (.var x) = (match muP x0 y0 (.var x) with | some (some x) => some x | _ => none) := rfl
    have em : muP x0 y0 (.var x) = if .var x = x0 then some (some y0) else some (some (.var x)) := rfl
    have es : Ob.rpM x0 y0 false (.var x) = if .var x = x0 then y0 else .var x := rfl
    rw [e, em, es]
    by_cases c : .var x = x0
    · rw [if_pos c, if_pos c]
      refine ⟨fun y hy => ?_, fun hy => (by cases hy)⟩
      have hy : some y0 = some y := hy
      rw [← Option.some.inj hy]
      exact ⟨rfl, fun _ => hy0⟩
    · rw [if_neg c, if_neg c]
      refine ⟨fun y hy => ?_, fun hy => (by cases hy)⟩
      have hy : some (.var x) = some y := hy
      rw [← Option.some.inj hy]
      exact ⟨rfl, fun _ => by show (1 : Int) ≤ 120; decide⟩
  | false, .op a b, h => by
    have e : rbM (muP x0 y0) false (.op a b) = (match muP x0 y0 (.pr a b) with | some (some x) => some x | some none => (match rbM (muP x0 y0) true b with | some y => if Ob.sz (.pr a y) ≤ 120 then some (Ob.pr a y) else none | none => none) | none => none) := rfl
    have es : Ob.rpM x0 y0 false (.op a b) = if Ob.pr a b = x0 then y0 else if a = Ob.quote then .pr a b else .pr a (Ob.rpM x0 y0 true b) := rfl
    have em : muP x0 y0 (.pr a b) = if Ob.pr a b = x0 then some (some y0) else if decide (a ≠ Ob.quote) = true then some none else some (some (.pr a b)) := rfl
    rw [e, em, es]
    by_cases c0 : Ob.pr a b = x0
    · rw [if_pos c0, if_pos c0]
      refine ⟨fun y hy => ?_, fun hy => (by cases hy)⟩
      have hy : some y0 = some y := hy
      rw [← Option.some.inj hy]
      exact ⟨rfl, fun _ => hy0⟩
    rw [if_neg c0, if_neg c0]
    by_cases c : a = Ob.quote
    · rw [if_neg (by rw [decide_eq_false (fun z => z c)]; decide), if_pos c]
      refine ⟨fun y hy => ?_, fun hy => (by cases hy)⟩
      have hy : some (Ob.pr a b) = some y := hy
      rw [← Option.some.inj hy]
      refine ⟨rfl, fun _ => ?_⟩
      show (if a = Ob.quote then (1 : Int) else _) ≤ 120
      rw [if_pos c]; decide
    · rw [if_pos (decide_eq_true c), if_neg c]
      obtain ⟨b1, b2⟩ := rbP_eq hy0 true b (h.2 c).2.2
      have ez : Ob.szM false (.pr a (Ob.rpM x0 y0 true b)) = 1 + Ob.szM true (Ob.rpM x0 y0 true b) := if_neg c
      cases eb : rbM (muP x0 y0) true b with
      | none =>
        refine ⟨fun y hy => (by cases hy), fun _ => ?_⟩
        have := b2 eb
        omega
      | some y =>
        have ey := (b1 y eb).1
        show (∀ z, (if Ob.sz (.pr a y) ≤ 120 then some (Ob.pr a y) else none) = some z → _) ∧ ((if Ob.sz (.pr a y) ≤ 120 then some (Ob.pr a y) else none) = none → _)
        rw [ey]
        by_cases q : Ob.sz (.pr a (Ob.rpM x0 y0 true b)) ≤ 120
        · rw [if_pos q]
          refine ⟨fun z hz => ?_, fun hz => (by cases hz)⟩
          rw [← Option.some.inj hz]
          exact ⟨rfl, fun _ => q⟩
        · rw [if_neg q]
          refine ⟨fun z hz => (by cases hz), fun _ => ?_⟩
          have q : ¬ Ob.szM false (.pr a (Ob.rpM x0 y0 true b)) ≤ 120 := q
          omega
/-- readings: none if it is no term, or too big -/
theorem rbR_eq [DecidableEq Ob] {ar : Ob → Int} : ∀ (m : Bool) (o : Ob), (m = true → o.len ≠ -1) → (∀ y, rbM (muR ar) m o = some y → Ob.rdM ar m o = some y ∧ (m = false → Ob.szM m y ≤ 120)) ∧ (rbM (muR ar) m o = none → Ob.rdM ar m o = none ∨ ∃ y, Ob.rdM ar m o = some y ∧ 120 < Ob.szM m y)
  | true, .var x, h => by
    have h := h rfl
    have hn : .var x = Ob.nil := by
      rw [Ob.len_var] at h
      by_cases c : .var x = Ob.nil
      · exact c
      · rw [if_neg c] at h; exact absurd rfl h
    refine ⟨fun y hy => ?_, fun hy => by cases hy⟩
    have hy : some Ob.nil = some y := hy
    refine ⟨?_, fun z => by cases z⟩
    show some (.var x) = some y
    rw [← hy, hn]
  | true, .op a b, h => by
    have hb : Ob.len b ≠ -1 := by
      have h := h rfl
      have e : Ob.len (.op a b) = if Ob.len b = -1 then -1 else Ob.len b + 1 := rfl
      rw [e] at h
      intro z
      rw [if_pos z] at h; exact h rfl
    obtain ⟨a1, a2⟩ := rbR_eq false a (fun z => by cases z)
    obtain ⟨b1, b2⟩ := rbR_eq true b (fun _ => hb)
    have e : rbM (muR ar) true (.op a b) = (match rbM (muR ar) false a with | some x => (match rbM (muR ar) true b with | some y => some (Ob.pr x y) | none => none) | none => none) := rfl
    have er : Ob.rdM ar true (.op a b) = (match Ob.rdM ar false a, Ob.rdM ar true b with | some x, some y => some (Ob.pr x y) | _, _ => none) := rfl
    rw [e, er]
    cases ea : rbM (muR ar) false a with
    | none =>
      refine ⟨fun y hy => (by cases hy), fun _ => ?_⟩
      rcases a2 ea with q | ⟨y, q1, q2⟩
      · rw [q]; exact Or.inl rfl
      · rw [q1]
        cases eb : Ob.rdM ar true b with
        | none => exact Or.inl rfl
        | some z => exact Or.inr ⟨.pr y z, rfl, by
            show 120 < Ob.szM false y + Ob.szM true z
            have := (Ob.szM_pos true z).1
            omega⟩
    | some x =>
      rw [(a1 x ea).1]
      cases eb : rbM (muR ar) true b with
      | none =>
        refine ⟨fun y hy => (by cases hy), fun _ => ?_⟩
        rcases b2 eb with q | ⟨y, q1, q2⟩
        · rw [q]; exact Or.inl rfl
        · rw [q1]
          exact Or.inr ⟨.pr x y, rfl, by
            show 120 < Ob.szM false x + Ob.szM true y
            have := (Ob.szM_pos false x).1
            omega⟩
      | some y =>
        rw [(b1 y eb).1]
        refine ⟨fun z hz => ⟨hz, fun q => by cases q⟩, fun hz => (by cases hz)⟩
  | false, .var x, _ => by
    refine ⟨fun y hy => ?_, fun hy => by cases hy⟩
    have hy : some (.var x) = some y := hy
    refine ⟨hy, fun _ => ?_⟩
    rw [← Option.some.inj hy]
    show (1 : Int) ≤ 120; decide
  | false, .op a b, _ => by
    have e : rbM (muR ar) false (.op a b) = (match muR ar (.pr a b) with | some (some x) => some x | some none => (match rbM (muR ar) true b with | some y => if Ob.sz (.pr a y) ≤ 120 then some (Ob.pr a y) else none | none => none) | none => none) := rfl
    have em : muR ar (.pr a b) = if a = Ob.quote then (if Ob.isQuoted (.pr a b) then some (some (Ob.constOf (Ob.lft b))) else none) else if ar a = -1 ∨ Ob.len b ≠ ar a then none else some none := rfl
    have er : Ob.rdM ar false (.op a b) = if a = Ob.quote then (if Ob.isQuoted (.pr a b) then some (Ob.constOf (Ob.lft b)) else none) else if ar a = -1 ∨ Ob.len b ≠ ar a then none else match Ob.rdM ar true b with | some y => some (Ob.pr a y) | none => none := rfl
    rw [e, em, er]
    by_cases c : a = Ob.quote
    · rw [if_pos c, if_pos c]
      by_cases q : Ob.isQuoted (.pr a b) = true
      · rw [if_pos q, if_pos q]
        refine ⟨fun y hy => ⟨hy, fun _ => ?_⟩, fun hy => (by cases hy)⟩
        have hy : some (Ob.constOf (Ob.lft b)) = some y := hy
        rw [← Option.some.inj hy]
        show Ob.sz (Ob.constOf (Ob.lft b)) ≤ 120
        unfold Ob.constOf
        split
        · next q2 =>
          cases e9 : Ob.lft b with
          | var z => show (1 : Int) ≤ 120; decide
          | op p r =>
            rw [e9] at q2
            have q3 : (Ob.isNat (.op p r) || decide (Lean.Data.AC.Expr.op p r = Ob.nil) || decide (Lean.Data.AC.Expr.op p r = Ob.t)) = true := q2
            rw [decide_eq_false (by intro z; cases z), decide_eq_false (by intro z; cases z)] at q3
            cases q3
        · show (if Ob.quote = Ob.quote then (1 : Int) else _) ≤ 120
          rw [if_pos rfl]; decide
      · rw [if_neg q, if_neg q]
        exact ⟨fun y hy => (by cases hy), fun _ => Or.inl rfl⟩
    · rw [if_neg c, if_neg c]
      by_cases q : ar a = -1 ∨ Ob.len b ≠ ar a
      · rw [if_pos q, if_pos q]
        exact ⟨fun y hy => (by cases hy), fun _ => Or.inl rfl⟩
      · rw [if_neg q, if_neg q]
        have h1 : ar a ≠ -1 := fun z => q (Or.inl z)
        have h2 : Ob.len b = ar a := Decidable.not_not.mp (fun z => q (Or.inr z))
        obtain ⟨b1, b2⟩ := rbR_eq true b (fun _ => by omega)
        have ez : ∀ y, Ob.szM false (.pr a y) = 1 + Ob.szM true y := fun y => if_neg c
        cases eb : rbM (muR ar) true b with
        | none =>
          refine ⟨fun y hy => (by cases hy), fun _ => ?_⟩
          rcases b2 eb with q | ⟨y, q1, q2⟩
          · rw [q]; exact Or.inl rfl
          · rw [q1]
            exact Or.inr ⟨.pr a y, rfl, by rw [ez]; omega⟩
        | some y =>
          rw [(b1 y eb).1]
          show (∀ z, (if Ob.sz (.pr a y) ≤ 120 then some (Ob.pr a y) else none) = some z → _) ∧ ((if Ob.sz (.pr a y) ≤ 120 then some (Ob.pr a y) else none) = none → _)
          by_cases q : Ob.sz (.pr a y) ≤ 120
          · rw [if_pos q]
            refine ⟨fun z hz => ⟨hz, fun _ => ?_⟩, fun hz => (by cases hz)⟩
            rw [← Option.some.inj hz]
            exact q
          · rw [if_neg q]
            refine ⟨fun z hz => (by cases hz), fun _ => Or.inr ⟨.pr a y, rfl, ?_⟩⟩
            have q : ¬ Ob.szM false (.pr a y) ≤ 120 := q
            omega
theorem rbR_T [DecidableEq Ob] {ar : Ob → Int} (o : Ob) : rbM (muR ar) false o = Ob.rdT ar o := by
  obtain ⟨h1, h2⟩ := rbR_eq (ar := ar) false o (fun z => by cases z)
  unfold Ob.rdT
  cases e : rbM (muR ar) false o with
  | some y =>
    obtain ⟨a, b⟩ := h1 y e
    rw [a]
    show _ = if Ob.sz y ≤ 120 then some y else none
    have hb : Ob.sz y ≤ 120 := b rfl
    rw [if_pos hb]
  | none =>
    rcases h2 e with q | ⟨y, q1, q2⟩
    · rw [q]
    · rw [q1]
      show _ = if Ob.sz y ≤ 120 then some y else none
      have q2 : 120 < Ob.sz y := q2
      rw [if_neg (by omega)]
theorem pc_rebuiltG [DecidableEq Ob] {k w : Int} {μ : Mu} {Q : Int → iST → Prop} {u : iST} (hT : CT u) (hM : MuH u w μ) (hN : w ≠ 0 → ∀ o, μ o ≠ none) (hk : VN u k) (h6 : ok6 μ false (oc u k)) (hd : dpM false (oc u k) < 128) (hs : (oc u k).sz ≤ 1000000) (hroom : u.1 32 = 0 → u.1 29 + Ob.csM false (oc u k) ≤ 160000)
    (hq : ∀ r v, CG f8B f8W u v → v.1 29 ≤ u.1 29 + Ob.csM false (oc u k) → (u.1 32 ≠ 0 → v.1 32 ≠ 0) → ((r = -1 ∧ (u.1 32 = 0 → rbM μ false (oc u k) = none) ∧ (w ≠ 0 → v.1 32 ≠ 0) ∧ (w = 0 → u.1 32 = 0 → v.1 32 = 0)) ∨ (VN v r ∧ (u.1 32 = 0 → v.1 32 = 0 ∧ rbM μ false (oc u k) = some (oc v r)))) → Q r v) : pv_10_rebuilt k w Q u := by
  unfold pv_10_rebuilt
  have hs : Ob.szM false (oc u k) ≤ 1000000 := hs
  refine (rb_go (Q := Q) hM hN false (oc u k)).1 rfl 0 0 k 0 u (CG.rf hT) hk rfl h6 (Int.le_refl _) (by omega) (Int.le_refl _) (by decide) (Int.le_refl _) (by omega) hroom ?_ ?_
  · intro v y6 kv v29 t2 t3 vv hx
    unfold rbC
    refine fo_v_10_rebuilt_128 ?_
    unfold pv_10_rebuilt_128b
    refine ⟨fun _ => ?_, fun z => absurd (Int.le_refl _) z⟩
    unfold pv_10_rebuilt_242
    refine ⟨fun z => absurd rfl z, fun _ => ?_⟩
    intro _ _ r er _
    rw [er]
    exact hq _ v kv.1 v29 kv.2.1 (Or.inr ⟨vv, hx⟩)
  · intro v gv v29 hn hw hdd hz
    exact hq (-1) v gv v29 hdd (Or.inl ⟨rfl, hn, hw, hz⟩)
