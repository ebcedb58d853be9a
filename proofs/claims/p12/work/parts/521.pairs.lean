-- deps: 520
/-! the reference: lists of (x T) -/
theorem ofList_drop [DecidableEq Ob] {o : Ob} (h : o.len ≠ -1) : ∀ i : Nat, i ≤ o.toList.length → (Ob.ofList (o.toList.drop i)).len = ((o.toList.length - i : Nat) : Int) := fun i _ => by
  rw [Ob.len_ofList, List.length_drop]
/-- one step down a list -/
theorem list_step [DecidableEq Ob] {u : iST} (hT : TI u) (hU : TU u) {k : Int} {L : List Ob} (k0 : 0 ≤ k) (k1 : k < u.1 8) (e : ob u k = Ob.ofList L) : (k = 0 ∧ L = []) ∨ (k ≠ 0 ∧ ∃ a l, L = a :: l ∧ 0 ≤ u.2.1 0 k ∧ u.2.1 0 k < u.1 8 ∧ ob u (u.2.1 0 k) = a ∧ 0 ≤ u.2.1 1 k ∧ u.2.1 1 k < u.1 8 ∧ ob u (u.2.1 1 k) = Ob.ofList l) := by
  have e0 := kat hT hU 0 (by decide) (by decide) rfl k0 k1
  cases L with
  | nil => exact Or.inl ⟨e0.mpr e, rfl⟩
  | cons a l =>
    refine Or.inr ⟨fun z => ?_, a, l, rfl, ?_⟩
    · have := e0.mp z
      rw [e] at this
      cases this
    · have e : ob u k = .pr a (Ob.ofList l) := e
      obtain ⟨p1, p2, q1, q2, _, _, e'⟩ := ob_lft hT k0 k1 (by rw [e]; rfl)
      rw [e] at e'
      obtain ⟨x, y⟩ := Ob.pr.inj e'
      exact ⟨p1, by omega, x.symm, q1, by omega, y.symm⟩
theorem lk_app [DecidableEq Ob] {l : List (Ob × Ob)} {x y z : Ob} : Ob.lk (l ++ [(x, y)]) z = (match Ob.lk l z with | some w => some w | none => if x = z then some y else none) := by
  induction l with
  | nil => rfl
  | cons p l ih =>
    obtain ⟨a, b⟩ := p
    rw [List.cons_append, lk_cons, lk_cons]
    by_cases c : a = z
    · rw [if_pos c, if_pos c]
    · rw [if_neg c, if_neg c, ih]
theorem pairsGo_cons [DecidableEq Ob] (E : Sp.Env) (p : Ob) (ps : List Ob) (l : List (Ob × Ob)) : Sp.pairsGo E (p :: ps) l = if Ob.len p = 2 ∧ Ob.isVar (Ob.lft p) = true ∧ Ob.lk l (Ob.lft p) = none then (match Ob.rdT (Sp.arOf E) (Ob.item p 1) with | some T => Sp.pairsGo E ps (l ++ [(Ob.lft p, T)]) | none => none) else none := rfl
theorem lft_item [DecidableEq Ob] {p : Ob} (h : p.len = 2) : p.isPr = true ∧ Ob.lft p = Ob.item p 0 := by
  cases p with
  | var x => rw [Ob.len_var] at h; split at h <;> omega
  | op a b => exact ⟨rfl, rfl⟩
theorem p_arePairs [DecidableEq Ob] {l : Int} {Q : Int → iST → Prop} {u : iST} {E : Sp.Env} (hT : TI u) (hU : TU u) (hD : DOk u E) (h57 : u.1 57 = -1) (l0 : 0 ≤ l) (l1 : l < u.1 8) (h71 : 0 ≤ u.1 71)
    (hq : ∀ r v, GM u v → v.1 61 = u.1 61 → bq r (Sp.pairsOf E (ob u l)).isSome → Q r v) : pw_arePairs l Q u := by
  unfold pw_arePairs
  refine p_lengthOf hT hU l0 l1 ⟨fun hlen => ?_, fun hlen _ => hq 0 u (GM.rf hT hU) rfl (bq0 ?_)⟩
  rotate_left
  · unfold Sp.pairsOf
    rw [if_pos (Decidable.not_not.mp hlen)]; rfl
  have hpo : Sp.pairsOf E (ob u l) = Sp.pairsGo E (Ob.toList (ob u l)) [] := by unfold Sp.pairsOf; rw [if_neg hlen]
  rw [hpo] at hq
  have eL := Ob.ofList_toList _ hlen
  generalize hLL : Ob.toList (ob u l) = L at hq eL
  refine pw_arePairs_13_i (fun x1 x2 v => x1 = l ∧ GM u v ∧ v.1 61 = u.1 61 ∧ 0 ≤ x2 ∧ x2 < v.1 8 ∧ ∃ (i : Nat) (acc : List (Ob × Ob)), i ≤ L.length ∧ ob v x2 = Ob.ofList (L.drop i) ∧ Sp.pairsGo E L [] = Sp.pairsGo E (L.drop i) acc ∧ acc.map (·.1) = (L.take i).map Ob.lft ∧ ∀ p, p ∈ L.take i → p.isPr = true) ?_ ⟨rfl, GM.rf hT hU, rfl, l0, l1, 0, [], Nat.zero_le _, eL.symm, rfl, rfl, fun p hp => by cases hp⟩
  intro x1 x2 v hI
  obtain ⟨e1, gv, v61, k0, k1, i, acc, hi, ek, hgo, hkeys, hprs⟩ := hI
  rw [e1]
  have hTv := gv.1.1
  have hUv := gv.1.2.1
  have Dv : DOk v E := hD.mono hT gv.1 (DSm.of gv.1.2.2.2.2 (by decide) (by decide) (by decide) (by decide) (by decide) (by decide) (by decide))
  have v57 : v.1 57 = -1 := ((gv.1.2.2.2.2 57 (by decide)).1).trans h57
  have hlev := gv.le
  unfold pw_arePairs_13b
  rcases list_step hTv hUv k0 k1 ek with ⟨z, hnil⟩ | ⟨z, p, rest, hcons, a0, a1, ea, b0, b1, eb⟩
  · refine ⟨fun _ _ => hq 1 v gv v61 (bq1 ?_), fun z' => absurd z z'⟩
    rw [hgo, hnil]; rfl
  refine ⟨fun z' => absurd z' z, fun _ => ?_⟩
  rw [hcons, pairsGo_cons] at hgo
  have bad : ¬ (Ob.len p = 2 ∧ Ob.isVar (Ob.lft p) = true ∧ Ob.lk acc (Ob.lft p) = none ∧ (Ob.rdT (Sp.arOf E) (Ob.item p 1)).isSome = true) → ∀ w, GM u w → w.1 61 = u.1 61 → Q 0 w := by
    intro hb w gw w61
    refine hq 0 w gw w61 (bq0 ?_)
    rw [hgo]
    by_cases c : Ob.len p = 2 ∧ Ob.isVar (Ob.lft p) = true ∧ Ob.lk acc (Ob.lft p) = none
    · rw [if_pos c]
      cases e : Ob.rdT (Sp.arOf E) (Ob.item p 1) with
      | none => rfl
      | some T => exact absurd ⟨c.1, c.2.1, c.2.2, by rw [e]; rfl⟩ hb
    · rw [if_neg c]; rfl
  have hi1 : i < L.length := by
    rcases Nat.lt_or_ge i L.length with q | q
    · exact q
    · rw [List.drop_eq_nil_of_le q] at hcons; cases hcons
  have hrest : rest = L.drop (i + 1) := by
    have := List.drop_eq_getElem_cons hi1
    rw [hcons] at this
    injection this
  have hp : L[i] = p := by
    have := List.drop_eq_getElem_cons hi1
    rw [hcons] at this
    injection this with h1 h2
    exact h1.symm
  intro _ _ y ey _
  rw [ey]
  refine p_lengthOf hTv hUv a0 a1 ?_
  rw [ea]
  refine ⟨fun hz _ => bad (fun q => hz q.1) v gv v61, fun hz => ?_⟩
  have hz := Decidable.not_not.mp hz
  obtain ⟨hpr, hl0⟩ := lft_item hz
  obtain ⟨c0, c1, _, _, ec, _, _⟩ := ob_lft hTv a0 a1 (by rw [ea]; exact hpr)
  rw [ea] at ec
  intro _ _ y2 ey2 _
  rw [ey2]
  refine p_isVariable hTv hUv c0 (by omega) (fun b hb => ⟨fun hz2 _ => bad (fun q => by have q2 := q.2.1; rw [ec, hb.f hz2] at q2; cases q2) v gv v61, fun hz2 => ?_⟩)
  have hvar : Ob.isVar (Ob.lft p) = true := by rw [ec]; exact hb.t hz2
  refine p_nthL hTv a0 a1 (by decide) (by rw [ea, hz]; decide) (fun t t0 t1 et => ?_)
  rw [ea] at et
  have et : ob v t = Ob.item p 1 := et
  refine p_termE hTv hUv Dv v57 t0 t1 (by rw [gv.2.1]; exact h71) (fun k w gw w61 hk => ?_)
  rw [et] at hk
  have guw := gv.tr gw
  have hlew := gw.le
  have w61' : w.1 61 = u.1 61 := w61.trans v61
  refine ⟨fun hkz => ?_, fun hkz _ => bad (fun q => ?_) w guw w61'⟩
  rotate_left
  · rcases hk with ⟨q1, _⟩ | ⟨q1, _⟩
    · rw [q1] at q; exact absurd q.2.2.2 (by decide)
    · have := q1.1; have := Decidable.not_not.mp hkz; omega
  obtain ⟨nk, zk, ek2⟩ := hk.resolve_left (fun q => hkz q.2)
  -- the nodes again, behind the making
  have x2w : ob w x2 = Ob.ofList (L.drop i) := by rw [gw.ob hTv k0 k1]; exact ek
  have w0 : w.2.1 0 x2 = v.2.1 0 x2 ∧ w.2.1 1 x2 = v.2.1 1 x2 := by
    have := gw.1.2.2.1.2.1 x2 k0 k1
    exact ⟨this.1, this.2.1⟩
  have wp0 : w.2.1 0 (v.2.1 0 x2) = v.2.1 0 (v.2.1 0 x2) := (gw.1.2.2.1.2.1 _ a0 a1).1
  have lw : ob w l = Ob.ofList L := by rw [guw.ob hT l0 l1]; exact eL.symm
  have ecw : ob w (v.2.1 0 (v.2.1 0 x2)) = Ob.lft p := by rw [gw.ob hTv c0 (by omega)]; exact ec.symm
  refine pw_arePairs_65_i (fun x1 x2' x3 x4 s => s = w ∧ x1 = l ∧ x2' = x2 ∧ x3 = v.2.1 0 x2 ∧ 0 ≤ x4 ∧ x4 < w.1 8 ∧ ∃ j : Nat, j ≤ i ∧ ob w x4 = Ob.ofList (L.drop j) ∧ ∀ q, q ∈ L.take j → Ob.lft q ≠ Ob.lft p) ?_ ⟨rfl, rfl, rfl, rfl, l0, by have := guw.le; omega, 0, Nat.zero_le _, lw, fun q hq => by cases hq⟩
  intro y1 y2' y3 x4 s hJ
  obtain ⟨es, f1, f2, f3, d0, d1, j, hj, ej, hne⟩ := hJ
  rw [es, f1, f2, f3]
  have hTw := gw.1.1
  have hUw := gw.1.2.1
  unfold pw_arePairs_65b
  have heq : x4 = x2 ↔ j = i := by
    rw [← hTw.inj hUw d0 d1 k0 (by omega), ej, x2w]
    constructor
    · intro h
      have := congrArg Ob.len h
      rw [Ob.len_ofList, Ob.len_ofList, List.length_drop, List.length_drop] at this
      omega
    · intro h; rw [h]
  refine ⟨fun hx => ?_, fun hx => ?_⟩
  · have hji := heq.mp hx
    rw [hji] at hne
    intro _ _ t2 et2 _
    rw [w0.2] at et2
    have hnone : Ob.lk acc (Ob.lft p) = none := by
      rw [lk_no7, hkeys]
      intro hm
      obtain ⟨q, hq1, hq2⟩ := List.mem_map.mp hm
      exact hne q hq1 hq2
    refine ⟨rfl, guw, w61', by rw [et2]; exact b0, by rw [et2]; omega, i + 1, acc ++ [(Ob.lft p, ob w k)], hi1, ?_, ?_, ?_, ?_⟩
    · rw [et2, gw.ob hTv b0 b1, eb, hrest]
    · rw [hgo, if_pos ⟨hz, hvar, hnone⟩, ek2, hrest]
    · rw [List.map_append, hkeys, List.take_add_one, List.getElem?_eq_getElem hi1, List.map_append, hp]
      rfl
    · intro q hq'
      rw [List.take_add_one, List.getElem?_eq_getElem hi1, hp] at hq'
      rcases List.mem_append.mp hq' with h | h
      · exact hprs q h
      · have h : q ∈ [p] := h
        rw [List.mem_singleton.mp h]; exact hpr
  · have hji : j < i := by
      have : j ≠ i := fun q => hx (heq.mpr q)
      omega
    have hjL : j < L.length := by omega
    have hdj := List.drop_eq_getElem_cons hjL
    rw [hdj] at ej
    rcases list_step hTw hUw d0 d1 ej with ⟨_, q⟩ | ⟨_, a', l', hc', g0, g1, eg, h0', h1', eh⟩
    · cases q
    injection hc' with hc1 hc2
    have hpq : (L[j]).isPr = true := hprs _ (List.mem_take_iff_getElem.mpr ⟨j, by omega, rfl⟩)
    obtain ⟨r0, r1, _, _, er, _, _⟩ := ob_lft hTw g0 g1 (by rw [eg, ← hc1]; exact hpq)
    rw [eg, ← hc1] at er
    intro _ _ t3 et3 _ _ _ t4 et4 _ _ _ t5 et5 _
    rw [et3] at et4
    rw [wp0] at et5
    rw [et4, et5]
    have hi5 := hTw.inj hUw r0 (show _ < w.1 8 by omega) c0 (show v.2.1 0 (v.2.1 0 x2) < w.1 8 by omega)
    rw [← er, ecw] at hi5
    refine ⟨fun hne' => ?_, fun hne' _ => bad (fun q => ?_) w guw w61'⟩
    · intro _ _ t6 et6 _
      rw [et6]
      refine ⟨rfl, rfl, rfl, rfl, h0', h1', j + 1, by omega, by rw [eh, ← hc2], fun q hq' => ?_⟩
      rw [List.take_add_one, List.getElem?_eq_getElem hjL] at hq'
      rcases List.mem_append.mp hq' with h | h
      · exact hne q h
      · have h : q ∈ [L[j]] := h
        rw [List.mem_singleton.mp h]
        exact fun z => hne' (hi5.mp z)
    · have hm : Ob.lft p ∈ acc.map (·.1) := by
        rw [hkeys]
        exact List.mem_map.mpr ⟨L[j], List.mem_take_iff_getElem.mpr ⟨j, by omega, rfl⟩, hi5.mpr (Decidable.not_not.mp hne')⟩
      exact absurd q.2.2.1 (fun z => lk_no7.mp z hm)
