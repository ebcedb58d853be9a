-- deps: 724
/-! the class: what a context makes of a term -/
theorem eqIn_no [DecidableEq Ob] {o c : Ob} (h : c.isCallOf Ob.equal = false) : Sp.eqIn o c = none := by unfold Sp.eqIn; rw [if_neg (by rw [h]; decide)]
theorem eqIn_yes [DecidableEq Ob] {o c : Ob} (h : c.isCallOf Ob.equal = true) : Sp.eqIn o c = if c.item 1 = o ∧ (c.item 2).isConst = true then some (c.item 2) else if c.item 2 = o ∧ (c.item 1).isConst = true then some (c.item 1) else none := by unfold Sp.eqIn; rw [if_pos h]
theorem not_equal [DecidableEq Ob] {c : Ob} (h : c.isCallOf Ob.not = true) : c.isCallOf Ob.equal = false := by
  obtain ⟨b, e⟩ := Ob.isCallOf_iff.mp h
  rw [e]
  exact decide_eq_false (Ob.sym_ne (by decide))
theorem pc_lookedUp [DecidableEq Ob] {k g row : Int} {Q : Int → iST → Prop} {u : iST} {E : Sp.Env} {ctx : List Ob} (hT : CT u) (nk : NdC u E k) (cx : CxC u E row ctx) (hq : ∀ r, NdC u E r → oc u r = Sp.look ctx (oc u k) (decide (g = 1)) → Q r u) : pv_6_lookedUp k g row Q u := by
  obtain ⟨n0, e0⟩ := NdC.known hT E 0 (o := Ob.nil) (by decide) (by decide) rfl rfl
  obtain ⟨n1, e1⟩ := NdC.known hT E 1 (o := Ob.t) (by decide) (by decide) rfl rfl
  unfold pv_6_lookedUp
  refine pv_6_lookedUp_12_i (fun x1 x2 x4 x5 x6 x7 y => x1 = k ∧ x2 = g ∧ y = u ∧ ∃ l D, VN u x7 ∧ oc u x7 = Ob.ofList l ∧ ctx = l.reverse ++ D ∧ (x4 ≠ 0 ↔ Ob.has D (oc u k) = true) ∧ (x5 ≠ 0 ↔ D.any (fun c => Ob.isCallOf c Ob.not && decide (Ob.item c 1 = oc u k)) = true) ∧ ((x6 = -1 ∧ D.findSome? (Sp.eqIn (oc u k)) = none) ∨ (NdC u E x6 ∧ D.findSome? (Sp.eqIn (oc u k)) = some (oc u x6)))) ?_ ⟨rfl, rfl, rfl, ctx.reverse, [], cx.1, cx.2.1, by rw [List.reverse_reverse, List.append_nil], ⟨fun z => absurd rfl z, fun z => by cases z⟩, ⟨fun z => absurd rfl z, fun z => by cases z⟩, Or.inl ⟨rfl, rfl⟩⟩
  rintro x1 x2 x4 x5 x6 x7 y ⟨a1, a2, ay, l, D, v7, e7, ec, h4, h5, h6⟩
  rw [a1, a2, ay]
  unfold pv_6_lookedUp_12b
  refine pc_isPair hT v7 (fun r hr => ⟨fun z => ?_, fun z => ?_⟩)
  · have hl : l = [] := by
      have := hr.f z
      rw [e7] at this
      cases l with
      | nil => rfl
      | cons a l => cases this
    rw [hl] at ec
    have ec : ctx = D := ec
    rw [ec] at hq
    unfold Sp.look at hq
    have rest : (Ob.has D (oc u k) && (decide (g = 1) || Ob.isBool (oc u k))) = false → pv_6_lookedUp_209 Q k x5 x6 u := by
      intro hb
      unfold pv_6_lookedUp_209
      rw [hb, if_neg (by decide)] at hq
      refine ⟨fun h50 => ?_, fun h50 => hq 0 n0 ?_⟩
      · rw [if_neg (fun q => h5.mpr q h50)] at hq
        rcases h6 with ⟨q1, q2⟩ | ⟨q1, q2⟩
        · refine ⟨fun _ => hq k nk ?_, fun z => absurd q1 z⟩
          rw [q2]; rfl
        · refine ⟨fun z => by have := q1.1.1; omega, fun _ => hq x6 q1 ?_⟩
          rw [q2]; rfl
      · rw [if_pos (h5.mp h50), e0]
    have yes : (Ob.has D (oc u k) && (decide (g = 1) || Ob.isBool (oc u k))) = true → Q 1 u := by
      intro hb
      rw [hb, if_pos rfl] at hq
      exact hq 1 n1 e1
    refine ⟨fun h40 => rest ?_, fun h40 => ⟨fun hg => yes ?_, fun hg => ?_⟩⟩
    · cases q : Ob.has D (oc u k) with
      | false => rfl
      | true => exact absurd h40 (h4.mpr q)
    · rw [h4.mp h40, decide_eq_true hg]; rfl
    · refine pc_isBoolean hT nk.1 (fun r2 hr2 => ⟨fun z2 => rest ?_, fun z2 => yes ?_⟩)
      · rw [hr2.f z2, decide_eq_false hg, Bool.or_false, Bool.and_false]
      · rw [hr2.t z2, h4.mp h40, Bool.or_true]; rfl
  obtain ⟨c, l', el⟩ : ∃ c l', l = c :: l' := by
    have := hr.t z
    rw [e7] at this
    cases l with
    | nil => cases this
    | cons a l => exact ⟨a, l, rfl⟩
  rw [el] at e7 ec
  have e7 : oc u x7 = .pr c (Ob.ofList l') := e7
  have ec : ctx = l'.reverse ++ (c :: D) := by rw [ec, List.reverse_cons, List.append_assoc]; rfl
  have hcw := cx.2.2 c (by rw [ec]; exact List.mem_append_right _ List.mem_cons_self)
  refine pc_left hT v7 (fun v3 vv3 ev3 => pc_item hT vv3 (by decide) (fun v4 vv4 ev4 => ?_))
  have ev3 : oc u v3 = c := by rw [ev3, e7]; rfl
  have ev4 : oc u v4 = c.item 1 := by rw [ev4, ev3]; rfl
  have n3 : NdC u E v3 := ⟨vv3, by rw [ev3]; exact hcw.1, by rw [ev3]; exact hcw.2⟩
  have i4 : v4 = k ↔ c.item 1 = oc u k := by rw [← ev4]; exact (hT.1.inj vv4.1 vv4.2 nk.1.1 nk.1.2).symm
  have i3 : v3 = k ↔ c = oc u k := by
    have := hT.1.inj vv3.1 vv3.2 nk.1.1 nk.1.2
    rw [ev3] at this
    exact this.symm
  -- the next
  have next : ∀ y4 y5 y6, (y4 ≠ 0 ↔ Ob.has (c :: D) (oc u k) = true) → (y5 ≠ 0 ↔ (c :: D).any (fun c => Ob.isCallOf c Ob.not && decide (Ob.item c 1 = oc u k)) = true) → ((y6 = -1 ∧ (c :: D).findSome? (Sp.eqIn (oc u k)) = none) ∨ (NdC u E y6 ∧ (c :: D).findSome? (Sp.eqIn (oc u k)) = some (oc u y6))) → pv_6_lookedUp_172 (fun x1 x2 x4 x5 x6 x7 y => x1 = k ∧ x2 = g ∧ y = u ∧ ∃ l D, VN u x7 ∧ oc u x7 = Ob.ofList l ∧ ctx = l.reverse ++ D ∧ (x4 ≠ 0 ↔ Ob.has D (oc u k) = true) ∧ (x5 ≠ 0 ↔ D.any (fun c => Ob.isCallOf c Ob.not && decide (Ob.item c 1 = oc u k)) = true) ∧ ((x6 = -1 ∧ D.findSome? (Sp.eqIn (oc u k)) = none) ∨ (NdC u E x6 ∧ D.findSome? (Sp.eqIn (oc u k)) = some (oc u x6)))) Q k g y4 y5 y6 x7 u := by
    intro y4 y5 y6 q4 q5 q6
    unfold pv_6_lookedUp_172
    refine pc_right hT v7 (fun t vt et => ⟨rfl, rfl, rfl, l', c :: D, vt, by rw [et, e7]; rfl, ec, q4, q5, q6⟩)
  have findN : Sp.eqIn (oc u k) c = none → ((x6 = -1 ∧ (c :: D).findSome? (Sp.eqIn (oc u k)) = none) ∨ (NdC u E x6 ∧ (c :: D).findSome? (Sp.eqIn (oc u k)) = some (oc u x6))) := by
    intro hn
    rw [List.findSome?_cons, hn]
    exact h6
  have findY : ∀ y, NdC u E y → Sp.eqIn (oc u k) c = some (oc u y) → ((y = -1 ∧ (c :: D).findSome? (Sp.eqIn (oc u k)) = none) ∨ (NdC u E y ∧ (c :: D).findSome? (Sp.eqIn (oc u k)) = some (oc u y))) := by
    intro y ny hy
    rw [List.findSome?_cons, hy]
    exact Or.inr ⟨ny, rfl⟩
  have anyN : Ob.isCallOf c Ob.not = false → (x5 ≠ 0 ↔ (c :: D).any (fun c => Ob.isCallOf c Ob.not && decide (Ob.item c 1 = oc u k)) = true) := by
    intro hn
    rw [List.any_cons, hn, Bool.false_and, Bool.false_or]
    exact h5
  have key : ∀ y4, (y4 ≠ 0 ↔ Ob.has (c :: D) (oc u k) = true) → pv_6_lookedUp_63 (fun x1 x2 x4 x5 x6 x7 y => x1 = k ∧ x2 = g ∧ y = u ∧ ∃ l D, VN u x7 ∧ oc u x7 = Ob.ofList l ∧ ctx = l.reverse ++ D ∧ (x4 ≠ 0 ↔ Ob.has D (oc u k) = true) ∧ (x5 ≠ 0 ↔ D.any (fun c => Ob.isCallOf c Ob.not && decide (Ob.item c 1 = oc u k)) = true) ∧ ((x6 = -1 ∧ D.findSome? (Sp.eqIn (oc u k)) = none) ∨ (NdC u E x6 ∧ D.findSome? (Sp.eqIn (oc u k)) = some (oc u x6)))) Q k g x5 x6 x7 v3 v4 y4 u := by
    intro y4 q4
    unfold pv_6_lookedUp_63
    refine pc_isCallK 16 hT vv3 (by decide) (by decide) (o := Ob.not) rfl (fun r1 hr1 => ⟨fun z1 => ?_, fun z1 => ?_⟩)
    · have hnn := hr1.f z1
      rw [ev3] at hnn
      refine pc_isCallK 4 hT vv3 (by decide) (by decide) (o := Ob.equal) rfl (fun r2 hr2 => ⟨fun z2 => ?_, fun z2 => ?_⟩)
      · have hne := hr2.f z2
        rw [ev3] at hne
        exact next y4 x5 x6 q4 (anyN hnn) (findN (eqIn_no hne))
      · have hey := hr2.t z2
        have hey' := hey
        rw [ev3] at hey'
        have n4 : NdC u E v4 := n3.it 0 hey (Ob.sym_ne (by decide)) (arOf_equal E) (by decide) vv4 (by rw [ev4, ev3])
        refine pc_it hT n3 hey (Ob.sym_ne (by decide)) (arOf_equal E) (by decide) (by decide) (fun v8 n8 ev8 => ?_)
        have ev8 : oc u v8 = c.item 2 := by rw [ev8, ev3]; rfl
        have i8 : v8 = k ↔ c.item 2 = oc u k := by rw [← ev8]; exact (hT.1.inj n8.1.1 n8.1.2 nk.1.1 nk.1.2).symm
        have eqi := eqIn_yes (o := oc u k) hey'
        have second : ¬ (c.item 1 = oc u k ∧ (c.item 2).isConst = true) → pv_6_lookedUp_150 (fun x1 x2 x4 x5 x6 x7 y => x1 = k ∧ x2 = g ∧ y = u ∧ ∃ l D, VN u x7 ∧ oc u x7 = Ob.ofList l ∧ ctx = l.reverse ++ D ∧ (x4 ≠ 0 ↔ Ob.has D (oc u k) = true) ∧ (x5 ≠ 0 ↔ D.any (fun c => Ob.isCallOf c Ob.not && decide (Ob.item c 1 = oc u k)) = true) ∧ ((x6 = -1 ∧ D.findSome? (Sp.eqIn (oc u k)) = none) ∨ (NdC u E x6 ∧ D.findSome? (Sp.eqIn (oc u k)) = some (oc u x6)))) Q k g y4 x5 x6 x7 v4 v8 u := by
          intro hno
          rw [if_neg hno] at eqi
          unfold pv_6_lookedUp_150
          refine ⟨fun z3 => next y4 x5 x6 q4 (anyN hnn) (findN ?_), fun z3 => ?_⟩
          · rw [eqi, if_neg (fun q => z3 (i8.mpr q.1))]
          · have h8 := i8.mp (Decidable.not_not.mp z3)
            refine pc_isConstant hT n4.1 (fun r3 hr3 => ⟨fun z4 => next y4 x5 x6 q4 (anyN hnn) (findN ?_), fun z4 => next y4 x5 v4 q4 (anyN hnn) (findY v4 n4 ?_)⟩)
            · have := hr3.f z4
              rw [ev4] at this
              rw [eqi, if_neg (fun q => by rw [q.2] at this; cases this)]
            · have := hr3.t z4
              rw [ev4] at this
              rw [eqi, if_pos ⟨h8, this⟩, ev4]
        refine ⟨fun z3 => second (fun q => z3 (i4.mpr q.1)), fun z3 => ?_⟩
        have h3 := i4.mp (Decidable.not_not.mp z3)
        refine pc_isConstant hT n8.1 (fun r3 hr3 => ⟨fun z4 => second (fun q => ?_), fun z4 => next y4 x5 v8 q4 (anyN hnn) (findY v8 n8 ?_)⟩)
        · have := hr3.f z4
          rw [ev8, q.2] at this; cases this
        · have := hr3.t z4
          rw [ev8] at this
          rw [eqi, if_pos ⟨h3, this⟩, ev8]
    · have hn := hr1.t z1
      rw [ev3] at hn
      have fN := findN (eqIn_no (not_equal hn))
      have anyE : (c :: D).any (fun c => Ob.isCallOf c Ob.not && decide (Ob.item c 1 = oc u k)) = (decide (Ob.item c 1 = oc u k) || D.any (fun c => Ob.isCallOf c Ob.not && decide (Ob.item c 1 = oc u k))) := by
        rw [List.any_cons, hn, Bool.true_and]
      have one : (c :: D).any (fun c => Ob.isCallOf c Ob.not && decide (Ob.item c 1 = oc u k)) = true → pv_6_lookedUp_90 (fun x1 x2 x4 x5 x6 x7 y => x1 = k ∧ x2 = g ∧ y = u ∧ ∃ l D, VN u x7 ∧ oc u x7 = Ob.ofList l ∧ ctx = l.reverse ++ D ∧ (x4 ≠ 0 ↔ Ob.has D (oc u k) = true) ∧ (x5 ≠ 0 ↔ D.any (fun c => Ob.isCallOf c Ob.not && decide (Ob.item c 1 = oc u k)) = true) ∧ ((x6 = -1 ∧ D.findSome? (Sp.eqIn (oc u k)) = none) ∨ (NdC u E x6 ∧ D.findSome? (Sp.eqIn (oc u k)) = some (oc u x6)))) Q k g y4 x6 x7 u := by
        intro hy
        unfold pv_6_lookedUp_90 pv_6_lookedUp_95
        exact next y4 1 x6 q4 ⟨fun _ => hy, fun _ => by decide⟩ fN
      refine ⟨fun z3 => one ?_, fun z3 => ⟨fun z4 => ?_, fun z4 => one ?_⟩⟩
      · rw [anyE, h5.mp z3, Bool.or_true]
      · unfold pv_6_lookedUp_95
        refine next y4 0 x6 q4 ⟨fun q => absurd rfl q, fun q => ?_⟩ fN
        rw [anyE, decide_eq_false (fun q => z4 (i4.mpr q)), Bool.false_or] at q
        exact absurd (Decidable.not_not.mp z3) (h5.mpr q)
      · rw [anyE, decide_eq_true (i4.mp (Decidable.not_not.mp z4)), Bool.true_or]
  refine ⟨fun z3 => ?_, fun z3 => ⟨fun z4 => key 0 ⟨fun q => absurd rfl q, fun q => ?_⟩, fun z4 => ?_⟩⟩
  · unfold pv_6_lookedUp_58
    exact key 1 ⟨fun _ => by rw [has_cons, h4.mp z3, Bool.or_true], fun _ => by decide⟩
  · rw [has_cons, decide_eq_false (fun q => z4 (i3.mpr q)), Bool.false_or] at q
    exact absurd (Decidable.not_not.mp z3) (h4.mpr q)
  · unfold pv_6_lookedUp_58
    exact key 1 ⟨fun _ => by rw [has_cons, decide_eq_true (i3.mp (Decidable.not_not.mp z4)), Bool.true_or], fun _ => by decide⟩
