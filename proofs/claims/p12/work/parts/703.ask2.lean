-- deps: 702
/-! the class: constants, calls, sides, lists -/
theorem pc_isConstant [DecidableEq Ob] {k : Int} {Q : Int → iST → Prop} {u : iST} (hT : CT u) (h : VN u k) (hq : ∀ r, bq r (oc u k).isConst → Q r u) : pv_7_isConstant k Q u := by
  unfold pv_7_isConstant
  refine ⟨fun z => absurd h.1 (by omega), fun _ => ?_⟩
  intro n en _
  rw [en]
  refine ⟨fun _ => ?_, fun z => absurd h.2 z⟩
  intro _ _ c ec _
  rw [ec]
  have k0 := katC hT 0 (o := Ob.nil) (by decide) (by decide) rfl h.1 h.2
  have k1 := katC hT 1 (o := Ob.t) (by decide) (by decide) rfl h.1 h.2
  have h0 := h.1
  refine ⟨fun hc => ⟨fun h2 _ => hq 1 (bq1 ?_), fun h2 => ⟨fun h1 _ => hq 0 (bq0 ?_), fun h1 _ => hq 1 (bq1 ?_)⟩⟩, fun hc => ?_⟩
  · have e := oc_nat hc h2
    rw [e]
    show (Ob.isNat (Ob.nat (u.2.2 k)) || _ || _) = true
    rw [Ob.nat_isNat]; rfl
  · have e := oc_sym (u := u) (k := k) (by omega)
    have n0 : oc u k ≠ Ob.nil := fun z => by have := k0.mpr z; omega
    have n1 : oc u k ≠ Ob.t := fun z => by have := k1.mpr z; omega
    rw [e] at n0 n1 ⊢
    show (Ob.isNat (Ob.sym _) || decide _ || decide _) = false
    rw [Ob.sym_isNat, decide_eq_false n0, decide_eq_false n1]; rfl
  · have hk : k = 0 ∨ k = 1 := by omega
    rcases hk with q | q
    · rw [k0.mp q]
      show (Ob.isNat Ob.nil || decide (Ob.nil = Ob.nil) || _) = true
      rw [decide_eq_true rfl, Bool.or_true]; rfl
    · rw [k1.mp q]
      show (Ob.isNat Ob.t || _ || decide (Ob.t = Ob.t)) = true
      rw [decide_eq_true rfl, Bool.or_true]
  · obtain ⟨vl, vr, _, _, e⟩ := oc_sides hT h (by omega)
    intro c1 ec1 _ c2 ec2 _ c3 ec3 _
    have e3 : c3 = cL (u.2.2 k) := by rw [ec3, ec2, ec1]; rfl
    rw [e3]
    have kq := katC hT 2 (o := Ob.quote) (by decide) (by decide) rfl vl.1 vl.2
    rw [e] at hq
    exact ⟨fun z _ => hq 0 (bq0 (decide_eq_false (fun q => z (kq.mpr q)))), fun z _ => hq 1 (bq1 (decide_eq_true (kq.mp (Decidable.not_not.mp z))))⟩
theorem oc_isCall [DecidableEq Ob] {u : iST} (hT : CT u) {k : Int} (h : VN u k) : (oc u k).isCall = true ↔ u.2.2 k < 0 ∧ cL (u.2.2 k) ≠ 2 := by
  rcases CIc.cases u k with a | a | a
  · obtain ⟨vl, vr, _, _, e⟩ := oc_sides hT h a
    have kq := katC hT 2 (o := Ob.quote) (by decide) (by decide) rfl vl.1 vl.2
    rw [e]
    show decide (oc u (cL (u.2.2 k)) ≠ Ob.quote) = true ↔ _
    rw [decide_eq_true_eq]
    exact ⟨fun z => ⟨a, fun q => z (kq.mp q)⟩, fun z q => z.2 (kq.mpr q)⟩
  · rw [oc_nat a.1 a.2]; exact ⟨(fun z => by cases z), fun z => by omega⟩
  · rw [oc_sym a]; exact ⟨(fun z => by cases z), fun z => by omega⟩
theorem pc_isCall [DecidableEq Ob] {k : Int} {Q : Int → iST → Prop} {u : iST} (hT : CT u) (h : VN u k) (hq : ∀ r, bq r (oc u k).isCall → Q r u) : pv_7_isCall k Q u := by
  have hc := oc_isCall hT h
  unfold pv_7_isCall
  refine ⟨fun z => absurd h.1 (by omega), fun _ => ?_⟩
  intro n en _
  rw [en]
  refine ⟨fun z => absurd h.2 (by omega), fun _ => ?_⟩
  intro _ _ c ec _
  rw [ec]
  refine ⟨fun z _ => hq 0 (bq0 (bf_of (fun q => by have := (hc.mp q).1; omega))), fun z => ?_⟩
  intro _ _ d ed _ c1 ec1 _ c2 ec2 _ c3 ec3 _
  have e3 : c3 = cL (u.2.2 k) := by rw [ec3, ec2, ec1, ed]; rfl
  rw [e3]
  exact ⟨fun q _ => hq 0 (bq0 (bf_of (fun q2 => (hc.mp q2).2 q))), fun q _ => hq 1 (bq1 (hc.mpr ⟨by omega, q⟩))⟩
theorem oc_isCallOf [DecidableEq Ob] {u : iST} (hT : CT u) {k a : Int} (h : VN u k) (ha : VN u a) : (oc u k).isCallOf (oc u a) = true ↔ u.2.2 k < 0 ∧ cL (u.2.2 k) = a := by
  rcases CIc.cases u k with c | c | c
  · obtain ⟨vl, vr, _, _, e⟩ := oc_sides hT h c
    rw [e]
    show decide (oc u (cL (u.2.2 k)) = oc u a) = true ↔ _
    rw [decide_eq_true_eq, hT.1.inj vl.1 vl.2 ha.1 ha.2]
    exact ⟨fun z => ⟨c, z⟩, fun z => z.2⟩
  · rw [oc_nat c.1 c.2]; exact ⟨(fun z => by cases z), fun z => by omega⟩
  · rw [oc_sym c]; exact ⟨(fun z => by cases z), fun z => by omega⟩
theorem pc_isCallOf [DecidableEq Ob] {k a : Int} {Q : Int → iST → Prop} {u : iST} (hT : CT u) (h : VN u k) (ha : VN u a) (hq : ∀ r, bq r ((oc u k).isCallOf (oc u a)) → Q r u) : pv_7_isCallOf k a Q u := by
  have hc := oc_isCallOf hT h ha
  unfold pv_7_isCallOf
  refine ⟨fun z => absurd h.1 (by omega), fun _ => ?_⟩
  intro n en _
  rw [en]
  refine ⟨fun z => absurd h.2 (by omega), fun _ => ?_⟩
  intro _ _ c ec _
  rw [ec]
  refine ⟨fun z _ => hq 0 (bq0 (bf_of (fun q => by have := (hc.mp q).1; omega))), fun z => ?_⟩
  intro _ _ d ed _ c1 ec1 _ c2 ec2 _ c3 ec3 _
  have e3 : c3 = cL (u.2.2 k) := by rw [ec3, ec2, ec1, ed]; rfl
  rw [e3]
  exact ⟨fun q _ => hq 0 (bq0 (bf_of (fun q2 => q (hc.mp q2).2))), fun q _ => hq 1 (bq1 (hc.mpr ⟨by omega, Decidable.not_not.mp q⟩))⟩
/-- by a known name -/
theorem pc_isCallK [DecidableEq Ob] {k : Int} (a : Int) {o : Ob} {Q : Int → iST → Prop} {u : iST} (hT : CT u) (h : VN u k) (a0 : 0 ≤ a) (a4 : a < 44) (ho : Ob.knownC[a.toNat]? = some o) (hq : ∀ r, bq r ((oc u k).isCallOf o) → Q r u) : pv_7_isCallOf k a Q u := by
  obtain ⟨b0, b1, b2⟩ := knC hT a a0 a4 ho
  exact pc_isCallOf hT h ⟨b0, b1⟩ (by rw [b2]; exact hq)
theorem pc_isQuoted [DecidableEq Ob] {k : Int} {Q : Int → iST → Prop} {u : iST} (hT : CT u) (h : VN u k) (hq : ∀ r, bq r (oc u k).isQuoted → Q r u) : pv_7_isQuoted k Q u := by
  unfold pv_7_isQuoted
  refine ⟨fun z => absurd h.1 (by omega), fun _ => ?_⟩
  intro n en _
  rw [en]
  refine ⟨fun z => absurd h.2 (by omega), fun _ => ?_⟩
  intro _ _ c ec _
  rw [ec]
  refine ⟨fun z _ => hq 0 (bq0 ?_), fun z => ?_⟩
  · rcases CIc.cases u k with a | a | a
    · omega
    · rw [oc_nat a.1 a.2]; rfl
    · rw [oc_sym a]; rfl
  obtain ⟨vl, vr, _, _, e⟩ := oc_sides hT h (by omega)
  have kq := katC hT 2 (o := Ob.quote) (by decide) (by decide) rfl vl.1 vl.2
  rw [e] at hq
  intro _ _ d ed _ c1 ec1 _ c2 ec2 _ c3 ec3 _
  have e3 : c3 = cL (u.2.2 k) := by rw [ec3, ec2, ec1, ed]; rfl
  rw [e3]
  refine ⟨fun h2 => ?_, fun h2 _ => hq 0 (bq0 ?_)⟩
  · intro _ _ f ef _ f1 ef1 _ f2 ef2 _
    have e5 : f2 = cR (u.2.2 k) := by rw [ef2, ef1, ef]; rfl
    rw [e5]
    intro _ _ g eg _
    rw [eg]
    refine ⟨fun q _ => hq 0 (bq0 ?_), fun q => ?_⟩
    · rcases CIc.cases u (cR (u.2.2 k)) with a | a | a
      · omega
      · rw [oc_nat a.1 a.2]; rfl
      · rw [oc_sym a]; rfl
    · obtain ⟨ul, ur, _, _, e2⟩ := oc_sides hT vr (by omega)
      have kn0 := katC hT 0 (o := Ob.nil) (by decide) (by decide) rfl ur.1 ur.2
      rw [e2] at hq
      intro g1 eg1 _ g2 eg2 _
      have e7 : g2 = cR (u.2.2 (cR (u.2.2 k))) := by rw [eg2, eg1]; rfl
      rw [e7]
      refine ⟨fun q2 _ => hq 0 (bq0 ?_), fun q2 _ => hq 1 (bq1 ?_)⟩
      · show (decide (oc u (cL (u.2.2 k)) = Ob.quote) && decide (oc u (cR (u.2.2 (cR (u.2.2 k)))) = Ob.nil)) = false
        rw [decide_eq_false (fun z2 => q2 (kn0.mpr z2)), Bool.and_false]
      · show (decide (oc u (cL (u.2.2 k)) = Ob.quote) && decide (oc u (cR (u.2.2 (cR (u.2.2 k)))) = Ob.nil)) = true
        rw [decide_eq_true (kq.mp h2), decide_eq_true (kn0.mp (Decidable.not_not.mp q2))]; rfl
  · cases e9 : oc u (cR (u.2.2 k)) with
    | var x => rfl
    | op x y =>
      show (decide (oc u (cL (u.2.2 k)) = Ob.quote) && _) = false
      rw [decide_eq_false (fun z2 => h2 (kq.mpr z2))]; rfl
theorem pc_left [DecidableEq Ob] {k : Int} {Q : Int → iST → Prop} {u : iST} (hT : CT u) (h : VN u k) (hq : ∀ r, VN u r → oc u r = (oc u k).lft → Q r u) : pv_7_left k Q u := by
  obtain ⟨z0, z1⟩ := VN.zero hT
  unfold pv_7_left
  refine ⟨fun z => absurd h.1 (by omega), fun _ => ?_⟩
  intro n en _
  rw [en]
  refine ⟨fun z => absurd h.2 (by omega), fun _ => ?_⟩
  intro _ _ c ec _
  rw [ec]
  refine ⟨fun z => hq 0 z0 ?_, fun z => ?_⟩
  · rw [z1]
    rcases CIc.cases u k with a | a | a
    · omega
    · rw [oc_nat a.1 a.2]; rfl
    · rw [oc_sym a]; rfl
  · obtain ⟨vl, vr, _, _, e⟩ := oc_sides hT h (by omega)
    intro _ _ d ed _ c1 ec1 _ c2 ec2 _ c3 ec3 _
    have e3 : c3 = cL (u.2.2 k) := by rw [ec3, ec2, ec1, ed]; rfl
    rw [e3]
    exact hq _ vl (by rw [e]; rfl)
theorem pc_right [DecidableEq Ob] {k : Int} {Q : Int → iST → Prop} {u : iST} (hT : CT u) (h : VN u k) (hq : ∀ r, VN u r → oc u r = (oc u k).rgt → Q r u) : pv_7_right k Q u := by
  obtain ⟨z0, z1⟩ := VN.zero hT
  unfold pv_7_right
  refine ⟨fun z => absurd h.1 (by omega), fun _ => ?_⟩
  intro n en _
  rw [en]
  refine ⟨fun z => absurd h.2 (by omega), fun _ => ?_⟩
  intro _ _ c ec _
  rw [ec]
  refine ⟨fun z => hq 0 z0 ?_, fun z => ?_⟩
  · rw [z1]
    rcases CIc.cases u k with a | a | a
    · omega
    · rw [oc_nat a.1 a.2]; rfl
    · rw [oc_sym a]; rfl
  · obtain ⟨vl, vr, _, _, e⟩ := oc_sides hT h (by omega)
    intro _ _ d ed _ c1 ec1 _ c2 ec2 _
    have e3 : c2 = cR (u.2.2 k) := by rw [ec2, ec1, ed]; rfl
    rw [e3]
    exact hq _ vr (by rw [e]; rfl)
theorem item_rgt [DecidableEq Ob] (o : Ob) (i : Nat) : Ob.item (Ob.rgt o) i = Ob.item o (i + 1) := by
  cases o with
  | var x => cases i <;> rfl
  | op a b => rfl
theorem pc_item [DecidableEq Ob] {k i : Int} {Q : Int → iST → Prop} {u : iST} (hT : CT u) (h : VN u k) (i0 : 0 ≤ i) (hq : ∀ r, VN u r → oc u r = (oc u k).item i.toNat → Q r u) : pv_7_item k i Q u := by
  obtain ⟨z0, z1⟩ := VN.zero hT
  unfold pv_7_item
  refine pv_7_item_5_i (fun x2 x3 x4 y => x2 = i ∧ y = u ∧ 0 ≤ x4 ∧ x4 ≤ i ∧ VN u x3 ∧ (oc u x3).item (i - x4).toNat = (oc u k).item i.toNat) ?_ ⟨rfl, rfl, Int.le_refl _, i0, h, by rw [show i - 0 = i by omega]⟩
  rintro x2 x3 x4 y ⟨e2, ey, a0, a1, v3, e3⟩
  rw [e2, ey]
  unfold pv_7_item_5b
  refine ⟨fun hle => ?_, fun hlt => ?_⟩
  · rw [show (i - x4).toNat = 0 by omega] at e3
    refine ⟨fun z => absurd v3.1 (by omega), fun _ => ?_⟩
    intro n en _
    rw [en]
    refine ⟨fun z => absurd v3.2 (by omega), fun _ => ?_⟩
    intro _ _ c ec _
    rw [ec]
    refine ⟨fun z => hq 0 z0 ?_, fun z => ?_⟩
    · rw [z1, ← e3]
      rcases CIc.cases u x3 with a | a | a
      · omega
      · rw [oc_nat a.1 a.2]; rfl
      · rw [oc_sym a]; rfl
    · obtain ⟨vl, vr, _, _, e⟩ := oc_sides hT v3 (by omega)
      intro _ _ d ed _ c1 ec1 _ c2 ec2 _ c3 ec3 _
      have e5 : c3 = cL (u.2.2 x3) := by rw [ec3, ec2, ec1, ed]; rfl
      rw [e5]
      exact hq _ vl (by rw [← e3, e]; rfl)
  · have en1 : (i - x4).toNat = (i - (x4 + 1)).toNat + 1 := by omega
    rw [en1, ← item_rgt] at e3
    refine ⟨fun z => absurd v3.1 (by omega), fun _ => ?_⟩
    intro n en _
    rw [en]
    refine ⟨fun z => absurd v3.2 (by omega), fun _ => ?_⟩
    intro _ _ c ec _
    rw [ec]
    refine ⟨fun z => ?_, fun z => ?_⟩
    · intro _
      refine ⟨rfl, rfl, by omega, by omega, z0, ?_⟩
      rw [← e3, z1]
      rcases CIc.cases u x3 with a | a | a
      · omega
      · rw [oc_nat a.1 a.2]; rfl
      · rw [oc_sym a]; rfl
    · obtain ⟨vl, vr, _, _, e⟩ := oc_sides hT v3 (by omega)
      intro _ _ d ed _ c1 ec1 _ c2 ec2 _ _
      have e5 : c2 = cR (u.2.2 x3) := by rw [ec2, ec1, ed]; rfl
      rw [e5]
      exact ⟨rfl, rfl, by omega, by omega, vr, by rw [← e3, e]; rfl⟩
theorem pc_lengthOf [DecidableEq Ob] {k : Int} {Q : Int → iST → Prop} {u : iST} (hT : CT u) (h : VN u k) (hq : Q (oc u k).len u) : pv_7_lengthOf k Q u := by
  unfold pv_7_lengthOf
  refine pv_7_lengthOf_4_i (fun x2 x3 y => y = u ∧ 0 ≤ x2 ∧ VN u x3 ∧ (oc u k).len = (if (oc u x3).len = -1 then -1 else (oc u x3).len + x2)) ?_ ⟨rfl, Int.le_refl _, h, by split <;> omega⟩
  rintro x2 x3 y ⟨ey, a0, v3, e3⟩
  rw [ey]
  unfold pv_7_lengthOf_4b
  refine ⟨fun z => absurd v3.1 (by omega), fun _ => ?_⟩
  intro n en _
  rw [en]
  refine ⟨fun z => absurd v3.2 (by omega), fun _ => ?_⟩
  intro _ _ c ec _
  rw [ec]
  have k0 := katC hT 0 (o := Ob.nil) (by decide) (by decide) rfl v3.1 v3.2
  refine ⟨fun z => ?_, fun z => ?_⟩
  · have e : (oc u x3).len = if oc u x3 = Ob.nil then 0 else -1 := by
      rcases CIc.cases u x3 with a | a | a
      · omega
      · rw [oc_nat a.1 a.2]; rfl
      · rw [oc_sym a]; rfl
    unfold pv_7_lengthOf_44
    refine ⟨fun q => ?_, fun q => ?_⟩
    · rw [e, if_neg (fun z2 => q (k0.mpr z2)), if_pos rfl] at e3
      rw [e3] at hq; exact hq
    · rw [e, if_pos (k0.mp (Decidable.not_not.mp q)), if_neg (by decide), show (0 : Int) + x2 = x2 by omega] at e3
      rw [e3] at hq; exact hq
  · obtain ⟨vl, vr, _, _, e⟩ := oc_sides hT v3 (by omega)
    intro _ _ d ed _ c1 ec1 _ c2 ec2 _ _
    have e5 : c2 = cR (u.2.2 x3) := by rw [ec2, ec1, ed]; rfl
    rw [e5]
    refine ⟨rfl, by omega, vr, ?_⟩
    rw [e3, e, Ob.len_pr]
    have := Ob.len_low (oc u (cR (u.2.2 x3)))
    by_cases q : (oc u (cR (u.2.2 x3))).len = -1
    · rw [if_pos q, if_pos rfl, if_pos q]
    · rw [if_neg q, if_neg q, if_neg (by omega)]; omega
/-- a SIZE as the class has it -/
def szC [DecidableEq Ob] (o : Ob) : Int := if o.sz ≤ 1000000 then o.sz else 1000001
theorem pc_sizeOf [DecidableEq Ob] {k : Int} {Q : Int → iST → Prop} {u : iST} (hT : CT u) (h : VN u k) (hq : Q (szC (oc u k)) u) : pv_7_sizeOf k Q u := by
  have one : (oc u k).sz = 1 → Q 1 u := fun e => by
    unfold szC at hq
    rw [e, if_pos (by decide)] at hq
    exact hq
  unfold pv_7_sizeOf
  refine ⟨fun z => absurd h.1 (by omega), fun _ => ?_⟩
  intro n en _
  rw [en]
  refine ⟨fun z => absurd h.2 (by omega), fun _ => ?_⟩
  intro _ _ c ec _
  rw [ec]
  refine ⟨fun z => one ?_, fun z => ?_⟩
  · rcases CIc.cases u k with a | a | a
    · omega
    · rw [oc_nat a.1 a.2]; rfl
    · rw [oc_sym a]; rfl
  obtain ⟨vl, vr, _, _, e⟩ := oc_sides hT h (by omega)
  have kq := katC hT 2 (o := Ob.quote) (by decide) (by decide) rfl vl.1 vl.2
  have es : (oc u k).sz = if oc u (cL (u.2.2 k)) = Ob.quote then 1 else 1 + Ob.szM true (oc u (cR (u.2.2 k))) := by rw [e]; rfl
  intro _ _ d ed _ c1 ec1 _ c2 ec2 _ c3 ec3 _
  have e3 : c3 = cL (u.2.2 k) := by rw [ec3, ec2, ec1, ed]; rfl
  rw [e3]
  refine ⟨fun q => ?_, fun q => one (by rw [es, if_pos (kq.mp (Decidable.not_not.mp q))])⟩
  rw [if_neg (fun z2 => q (kq.mpr z2))] at es
  intro _ _ f ef _ f1 ef1 _ f2 ef2 _
  have e5 : f2 = cR (u.2.2 k) := by rw [ef2, ef1, ef]; rfl
  rw [e5]
  intro _ _ s es2 _ _
  have hs := (hT.2.2.1 _ vr.1 vr.2).2
  have hp := (Ob.szM_pos true (oc u (cR (u.2.2 k)))).1
  have : 1 + s = szC (oc u k) := by
    unfold szC
    rw [es, es2, hs]
    unfold capM
    split <;> split <;> omega
  rw [this]
  exact hq
theorem pc_heightOf [DecidableEq Ob] {k : Int} {Q : Int → iST → Prop} {u : iST} (hT : CT u) (h : VN u k) (hq : Q (oc u k).hgt u) : pv_7_heightOf k Q u := by
  unfold pv_7_heightOf
  refine ⟨fun z => absurd h.1 (by omega), fun _ => ?_⟩
  intro n en _
  rw [en]
  refine ⟨fun z => absurd h.2 (by omega), fun _ => ?_⟩
  intro _ _ c ec _
  rw [ec, (hT.2.2.1 k h.1 h.2).1]
  exact hq
theorem pc_numberOf [DecidableEq Ob] {k : Int} {Q : Int → iST → Prop} {u : iST} (hT : CT u) (h : VN u k) (hq : Q (oc u k).num u) : pv_7_numberOf k Q u := by
  unfold pv_7_numberOf
  refine ⟨fun z => absurd h.1 (by omega), fun _ => ?_⟩
  intro n en _
  rw [en]
  refine ⟨fun z => absurd h.2 (by omega), fun _ => ?_⟩
  intro _ _ c ec hc d ed hd
  refine ⟨fun z => ?_, fun z => ?_⟩
  · have : (oc u k).num = 0 := by
      rcases CIc.cases u k with a | a | a
      · rw [oc_pr hT.1 h.1 h.2 a]; rfl
      · rw [← ec] at a
        rw [ed] at hd
        exact absurd (by rw [ed]; exact ush62_0 a.1 a.2 hd) z
      · rw [oc_sym a, Ob.sym_num]
    rw [this] at hq
    exact hq
  · have q := ushr62b hc (by rw [← ed]; exact Decidable.not_not.mp z)
    rw [ec] at q
    intro _ _ f ef _
    rw [oc_nat q.1 q.2, Ob.nat_num q.1] at hq
    rw [ef]
    exact hq
theorem pc_valueOf [DecidableEq Ob] {k : Int} {Q : Int → iST → Prop} {u : iST} (hT : CT u) (h : VN u k) (hq : ∀ r, VN u r → oc u r = (oc u k).valOf → Q r u) : pv_7_valueOf k Q u := by
  obtain ⟨z0, z1⟩ := VN.zero hT
  unfold pv_7_valueOf
  refine ⟨fun z => absurd h.1 (by omega), fun _ => ?_⟩
  intro n en _
  rw [en]
  refine ⟨fun z => absurd h.2 (by omega), fun _ => ?_⟩
  intro _ _ c ec _
  rw [ec]
  refine ⟨fun z => ?_, fun z => hq k h ?_⟩
  · obtain ⟨vl, vr, _, _, e⟩ := oc_sides hT h z
    intro _ _ d ed _ c1 ec1 _ c2 ec2 _
    have e3 : c2 = cR (u.2.2 k) := by rw [ec2, ec1, ed]; rfl
    rw [e3]
    intro _ _ f ef _
    rw [ef]
    refine ⟨fun q => hq 0 z0 ?_, fun q => ?_⟩
    · rw [z1, e]
      show Ob.nil = Ob.lft (oc u (cR (u.2.2 k)))
      rcases CIc.cases u (cR (u.2.2 k)) with a | a | a
      · omega
      · rw [oc_nat a.1 a.2]; rfl
      · rw [oc_sym a]; rfl
    · obtain ⟨ul, ur, _, _, e2⟩ := oc_sides hT vr (by omega)
      intro g1 eg1 _ g2 eg2 _ g3 eg3 _
      have e5 : g3 = cL (u.2.2 (cR (u.2.2 k))) := by rw [eg3, eg2, eg1]; rfl
      rw [e5]
      exact hq _ ul (by rw [e]; show _ = Ob.lft (oc u (cR (u.2.2 k))); rw [e2]; rfl)
  · rcases CIc.cases u k with a | a | a
    · omega
    · rw [oc_nat a.1 a.2]; rfl
    · rw [oc_sym a]; rfl
theorem pc_constantOf [DecidableEq Ob] {k : Int} {Q : Int → iST → Prop} {u : iST} (hT : CT u) (h : VN u k) (hm : u.1 29 < 159999) (hq : ∀ r v, CG f8M f8R u v → VN v r → oc v r = Ob.constOf (oc u k) → v.1 29 ≤ u.1 29 + 2 → Q r v) : pv_7_constantOf k Q u := by
  have k0 := katC hT 0 (o := Ob.nil) (by decide) (by decide) rfl h.1 h.2
  have k1 := katC hT 1 (o := Ob.t) (by decide) (by decide) rfl h.1 h.2
  have h0 := h.1
  have same : ((oc u k).isNat || decide (oc u k = Ob.nil) || decide (oc u k = Ob.t)) = true → Q k u := fun e => hq k u (CG.rf hT) h (by unfold Ob.constOf; rw [if_pos e]) (by omega)
  unfold pv_7_constantOf
  refine ⟨fun z => same ?_, fun z => ?_⟩
  · have hk : k = 0 ∨ k = 1 := by omega
    rcases hk with q | q
    · rw [decide_eq_true (k0.mp q), Bool.or_true]; rfl
    · rw [decide_eq_true (k1.mp q), Bool.or_true]
  · refine pc_isNatural hT h (fun r hr => ⟨fun q => ?_, fun q => same (by rw [hr.t q]; rfl)⟩)
    have e : Ob.constOf (oc u k) = .pr Ob.quote (.pr (oc u k) Ob.nil) := by
      unfold Ob.constOf
      rw [hr.f q, decide_eq_false (fun z2 => by have := k0.mpr z2; omega), decide_eq_false (fun z2 => by have := k1.mpr z2; omega)]
      rfl
    obtain ⟨z0, z1⟩ := VN.zero hT
    refine pc_pair hT h z0 (by omega) (fun a v gv va ea hv => ?_)
    obtain ⟨t0, t1, t2⟩ := knC gv.1 2 (o := Ob.quote) (by decide) (by decide) rfl
    refine pc_pair gv.1 ⟨t0, t1⟩ va (by omega) (fun b w gw vb eb hw => hq b w (gv.tr gw) vb (by rw [eb, t2, ea, z1, e]) (by omega))
