-- deps: 523
/-! the reference: the hints together -/
theorem pairsGo_env [DecidableEq Ob] {H : Sp.Hs} {m : List Ob} : ∀ (L : List Ob) (acc : List (Ob × Ob)), Sp.pairsGo (H.env m) L acc = Sp.pairsGo (H.env []) L acc
  | [], acc => rfl
  | p :: L, acc => by
    rw [pairsGo_cons, pairsGo_cons]
    have e : Sp.arOf (H.env m) = Sp.arOf (H.env []) := rfl
    rw [e]
    cases e2 : Ob.rdT (Sp.arOf (H.env [])) (Ob.item p 1) with
    | none => rfl
    | some T =>
      show (if _ then Sp.pairsGo (H.env m) L (acc ++ [(Ob.lft p, T)]) else none) = (if _ then Sp.pairsGo (H.env []) L (acc ++ [(Ob.lft p, T)]) else none)
      rw [pairsGo_env L]
theorem pairsOf_env [DecidableEq Ob] {H : Sp.Hs} {m : List Ob} : Sp.pairsOf (H.env m) = Sp.pairsOf (H.env []) := by
  funext o
  unfold Sp.pairsOf
  rw [pairsGo_env]
theorem useAsk_env [DecidableEq Ob] {H : Sp.Hs} {m : List Ob} (h : Ob) : Sp.useAsk (H.env m) h = Sp.useAsk (H.env []) h := by
  unfold Sp.useAsk
  rw [pairsOf_env]
  rfl
theorem HX.names [DecidableEq Ob] {u : iST} {H : Sp.Hs} {m : List Ob} (h : HX u H m) : ∀ r r', 0 ≤ r → r < u.1 42 → 0 ≤ r' → r' < u.1 42 → ob u (u.2.1 43 r) = ob u (u.2.1 43 r') → r = r' := by
  intro r r' r0 r1 r0' r1' e
  have hn := (HOk.wf h.2.2.2.2.1).2.2.2
  have e1 : H.2.1 = thmsL u := h.2.2.1.2.2.2.1
  rw [e1] at hn
  have key : ∀ i j : Nat, (i : Int) < u.1 42 → (j : Int) < u.1 42 → i < j → ob u (u.2.1 43 (i : Int)) ≠ ob u (u.2.1 43 (j : Int)) := by
    intro i j hi hj hij
    have := List.pairwise_iff_getElem.mp hn i j (by unfold thmsL; simp; omega) (by unfold thmsL; simp; omega) hij
    unfold thmsL at this
    simp only [List.getElem_map, List.getElem_range] at this
    exact this
  rcases Int.lt_trichotomy r r' with c | c | c
  · have := key r.toNat r'.toNat (by omega) (by omega) (by omega)
    rw [show ((r.toNat : Nat) : Int) = r by omega, show ((r'.toNat : Nat) : Int) = r' by omega] at this
    exact absurd e this
  · exact c
  · have := key r'.toNat r.toNat (by omega) (by omega) (by omega)
    rw [show ((r.toNat : Nat) : Int) = r by omega, show ((r'.toNat : Nat) : Int) = r' by omega] at this
    exact absurd e.symm this
/-- what was found of the hints so far -/
def HnD [DecidableEq Ob] (v : iST) (H : Sp.Hs) (m : List Ob) (hs : List Ob) : Prop :=
  (v.1 135 ≠ 0 ↔ hs.any (fun x => decide (Ob.lft x = Ob.off)) = true) ∧ (v.1 133 ≠ -1 ↔ hs.any (fun x => decide (Ob.lft x = Ob.induct)) = true) ∧
  (Sp.hintsAsk (H.env []) hs = 0 → m = Sp.offsOf hs ∧ (v.1 133 ≠ -1 → ∃ h, hs.find? (fun h => decide (Ob.lft h = Ob.induct)) = some h ∧ InG v (H.env []) (Ob.item h 1)) ∧ (∀ i, 0 ≤ i → i < v.1 139 → UsE v (H.env []) i) ∧ Sp.usesOf (H.env []) hs = (List.range (v.1 139).toNat).map (fun i : Nat => UsP v (H.env []) (i : Int)))
def HnI [DecidableEq Ob] (u v : iST) (H : Sp.Hs) (hs : List Ob) : Prop := GZ f7N u v ∧ v.1 71 = u.1 71 ∧ v.1 61 = u.1 61 ∧ v.1 136 = Sp.hintsAsk (H.env []) hs ∧ 0 ≤ v.1 139 ∧ ∃ m, MuR v m ∧ (Sp.hintsAsk (H.env []) hs ≠ 2 → HnD v H m hs)
theorem f7N_env [DecidableEq Ob] {k : Nat} (h : f7N k = false → False) : True := trivial
theorem f7N_mid [DecidableEq Ob] : ∀ k, (12 ≤ k ∧ k ≤ 14) ∨ (35 ≤ k ∧ k ≤ 60) ∧ k ≠ 53 ∨ k = 62 ∨ k = 63 ∨ k = 64 ∨ k = 132 → f7N k = false := by
  intro k h
  unfold f7N f7M fI f7W
  simp only [Bool.or_eq_false_iff, decide_eq_false_iff_not]
  omega
/-- the house, while hints are looked at -/
theorem HX.hint [DecidableEq Ob] {u v : iST} {H : Sp.Hs} {m m' : List Ob} (h : HX u H m) (g : GZ f7N u v) (hM : MuR v m') : HX v H m' := by
  obtain ⟨h1, h2, ⟨hD, h57, hW, hTk⟩, h4, h5, h6, h7, h8⟩ := h
  have q : ∀ k, 35 ≤ k → k ≤ 57 → k ≠ 53 → v.1 k = u.1 k ∧ v.2.1 k = u.2.1 k := fun k a b c => g.2.2.2.2 k (f7N_mid k (by omega))
  have q42 := q 42 (by decide) (by decide) (by decide)
  obtain ⟨k1, k2⟩ := h8.keep g.le (q 54 (by decide) (by decide) (by decide)).1 (fun k a b => (q k a (by omega) (by omega)).2)
  have hT' : TOk v (H.env m') := TOk.mute hTk h1 g q42.1 (fun k a b => (q k (by omega) (by omega) (by omega)).2) (fun r r0 r1 => by
    have := hM r r0 (by rw [q42.1]; exact r1)
    have a := (hTk.2.2.1 r r0 r1).1
    rw [(q 43 (by decide) (by decide) (by decide)).2, g.ob h1 a.1 a.2] at this
    exact this)
  refine ⟨g.1, g.2.1, ⟨hD.mono h1 g (DSm.of g.2.2.2.2 (f7N_mid _ (by decide)) (f7N_mid _ (by decide)) (f7N_mid _ (by decide)) (f7N_mid _ (by decide)) (f7N_mid _ (by decide)) (f7N_mid _ (by decide)) (f7N_mid _ (by decide))), ((q 57 (by decide) (by decide) (by decide)).1).trans h57, hW, hT'⟩, ?_, h5, by rw [(q 54 (by decide) (by decide) (by decide)).1]; exact h6, by rw [k2]; exact h7, k1⟩
  exact h4.mono h1 g q42.1 (q 44 (by decide) (by decide) (by decide)).2
theorem InG.keep [DecidableEq Ob] {v w : iST} {E : Sp.Env} {c : Ob} (h : InG v E c) (hD : DOk v E) (hT : TI v) {n : Nat → Bool} (g : GZ n v w) (hn : ∀ k, 35 ≤ k → k ≤ 41 → n k = false) (h133 : w.1 133 = v.1 133) (h134 : w.1 134 = v.1 134) : InG w E c := by
  obtain ⟨d, d0, d1, a1, a2, a3, a4, a5, a6, a7, a8⟩ := h
  have q : ∀ k, 35 ≤ k → k ≤ 41 → w.1 k = v.1 k ∧ w.2.1 k = v.2.1 k := fun k a b => g.2.2.2.2 k (hn k a b)
  have hle := g.le
  have e1 := ((hD.2.2 d d0 d1).mono hT g (DSm.of g.2.2.2.2 (hn _ (by decide) (by decide)) (hn _ (by decide) (by decide)) (hn _ (by decide) (by decide)) (hn _ (by decide) (by decide)) (hn _ (by decide) (by decide)) (hn _ (by decide) (by decide)) (hn _ (by decide) (by decide)))).2
  exact ⟨d, d0, by rw [(q 35 (by decide) (by decide)).1]; exact d1, by rw [h133]; exact a1, by rw [(q 41 (by decide) (by decide)).2]; exact a2, by rw [e1]; exact a3, by rw [h134]; exact a4, by rw [h134]; omega, by rw [h134, g.ob hT a4 a5]; exact a6, by rw [(q 37 (by decide) (by decide)).2]; exact a7, a8⟩
theorem Us.keep [DecidableEq Ob] {v w : iST} {E : Sp.Env} (hT : TI v) (hF : FmOk v E) {n : Nat → Bool} (g : GZ n v w) (h42 : w.1 42 = v.1 42) (h44 : w.2.1 44 = v.2.1 44) {i : Int} (h137 : w.2.1 137 i = v.2.1 137 i) (h138 : w.2.1 138 i = v.2.1 138 i) (h : UsE v E i) : UsE w E i ∧ UsP w E i = UsP v E i := by
  obtain ⟨⟨a1, a2⟩, ⟨b1, b2⟩, c⟩ := h
  have e := g.ob hT b1 b2
  have hle := g.le
  have f := hF _ a1 a2
  refine ⟨⟨⟨by rw [h137]; exact a1, by rw [h137, h42]; exact a2⟩, ⟨by rw [h138]; exact b1, by rw [h138]; omega⟩, by rw [h138, e]; exact c⟩, ?_⟩
  unfold UsP
  rw [h137, h138, h44, e, g.ob hT f.1 f.2.1]
theorem hints_snoc [DecidableEq Ob] {H : Sp.Hs} {hs : List Ob} {h : Ob} : Sp.hintsAsk (H.env []) (hs ++ [h]) = if Sp.hintsAsk (H.env []) hs = 2 then 2 else if Sp.hintAsk (H.env []) h (hs.any (fun x => decide (Ob.lft x = Ob.induct))) (hs.any (fun x => decide (Ob.lft x = Ob.off))) = 2 then 2 else if Sp.hintsAsk (H.env []) hs = 3 then 3 else Sp.hintAsk (H.env []) h (hs.any (fun x => decide (Ob.lft x = Ob.induct))) (hs.any (fun x => decide (Ob.lft x = Ob.off))) := by
  unfold Sp.hintsAsk
  rw [hintsGo_snoc _ _ _ _ _ _ (Or.inl rfl), Bool.false_or, Bool.false_or]
/-- how the worst of all goes on -/
theorem wrs_step [DecidableEq Ob] {W a : Int} (hW : W = 0 ∨ W = 2 ∨ W = 3) (ha : a = 0 ∨ a = 2 ∨ a = 3) : wrs W a = if W = 2 then 2 else if a = 2 then 2 else if W = 3 then 3 else a := by
  unfold wrs
  rcases hW with w | w | w <;> rcases ha with b | b | b <;> rw [w, b] <;> rfl
/-- one hint more -/
theorem HnI.next [DecidableEq Ob] {u v w : iST} {H : Sp.Hs} {hs : List Ob} {h : Ob} {a : Int} {m2 : List Ob} (hI : HnI u v H hs) (g : GZ f7N v w) (w71 : w.1 71 = v.1 71) (w61 : w.1 61 = v.1 61) (ha : Sp.hintsAsk (H.env []) hs ≠ 2 → a = Sp.hintAsk (H.env []) h (hs.any (fun x => decide (Ob.lft x = Ob.induct))) (hs.any (fun x => decide (Ob.lft x = Ob.off)))) (ra : a = 0 ∨ a = 2 ∨ a = 3) (w136 : w.1 136 = wrs (v.1 136) a) (w139 : 0 ≤ w.1 139) (hM : MuR w m2)
    (hd : Sp.hintsAsk (H.env []) hs ≠ 2 → a ≠ 2 → HnD w H m2 (hs ++ [h])) : HnI u w H (hs ++ [h]) := by
  obtain ⟨g1, v71, v61, v136, _, m, _, _⟩ := hI
  have rW : Sp.hintsAsk (H.env []) hs = 0 ∨ Sp.hintsAsk (H.env []) hs = 2 ∨ Sp.hintsAsk (H.env []) hs = 3 := hintsGo_range _ _ _ _ _ (Or.inl rfl)
  have eW : Sp.hintsAsk (H.env []) (hs ++ [h]) = wrs (v.1 136) a := by
    rw [hints_snoc, v136, wrs_step rW ra]
    by_cases c : Sp.hintsAsk (H.env []) hs = 2
    · rw [if_pos c, if_pos c]
    · rw [if_neg c, if_neg c, ← ha c]
  refine ⟨g1.tr g, w71.trans v71, w61.trans v61, by rw [w136, eW], w139, m2, hM, fun hz => ?_⟩
  rw [eW, v136, wrs_step rW ra] at hz
  have c : Sp.hintsAsk (H.env []) hs ≠ 2 := fun z => by rw [if_pos z] at hz; exact hz rfl
  rw [if_neg c] at hz
  exact hd c (fun z => by rw [if_pos z] at hz; exact hz rfl)
theorem offsOf_snoc [DecidableEq Ob] (hs : List Ob) (h : Ob) : Sp.offsOf (hs ++ [h]) = Sp.offsOf hs ++ (if Ob.lft h = Ob.off then Ob.toList (Ob.rgt h) else []) := by
  unfold Sp.offsOf
  rw [List.filter_append, List.flatMap_append]
  by_cases c : Ob.lft h = Ob.off
  · rw [if_pos c, List.filter_cons_of_pos (by exact decide_eq_true c)]
    simp
  · rw [if_neg c, List.filter_cons_of_neg (by simpa using c)]
    simp
theorem usesOf_snoc [DecidableEq Ob] (E : Sp.Env) (hs : List Ob) (h : Ob) : Sp.usesOf E (hs ++ [h]) = Sp.usesOf E hs ++ (if Ob.lft h = Ob.use then (match E.thmOf (Ob.item h 1), Sp.pairsOf E (Ob.rgt (Ob.rgt h)) with | some k, some ps => [(k.form, ps)] | _, _ => []) else []) := by
  unfold Sp.usesOf
  rw [List.filterMap_append]
  refine congrArg _ ?_
  by_cases c : Ob.lft h = Ob.use
  · rw [if_pos c]
    cases e1 : E.thmOf (Ob.item h 1) with
    | none => rw [List.filterMap_cons_none (by rw [if_pos c, e1])]; rfl
    | some k =>
      cases e2 : Sp.pairsOf E (Ob.rgt (Ob.rgt h)) with
      | none => rw [List.filterMap_cons_none (by rw [if_pos c, e1, e2])]; rfl
      | some ps => rw [List.filterMap_cons_some (by rw [if_pos c, e1, e2])]; rfl
  · rw [if_neg c, List.filterMap_cons_none (by rw [if_neg c])]; rfl
theorem HnD.keep [DecidableEq Ob] {v w : iST} {H : Sp.Hs} {m : List Ob} {hs : List Ob} {h : Ob} (hd : HnD v H m hs) (hT : TI v) (hD : DOk v (H.env [])) (hF : FmOk v (H.env [])) (g : GZ f7N v w) (h1 : Ob.lft h ≠ Ob.off) (h2 : Ob.lft h ≠ Ob.induct) (w135 : w.1 135 = v.1 135) (w133 : w.1 133 = v.1 133) (w134 : w.1 134 = v.1 134) (w137 : ∀ i, i < v.1 139 → w.2.1 137 i = v.2.1 137 i ∧ w.2.1 138 i = v.2.1 138 i)
    (hu : Sp.hintsAsk (H.env []) (hs ++ [h]) = 0 → Sp.hintsAsk (H.env []) hs = 0 ∧ 0 ≤ v.1 139 ∧ (w.1 139 = v.1 139 ∧ Ob.lft h ≠ Ob.use ∨ w.1 139 = v.1 139 + 1 ∧ Ob.lft h = Ob.use ∧ UsE w (H.env []) (v.1 139) ∧ ∃ k, Sp.Env.thmOf (H.env []) (Ob.item h 1) = some k ∧ (Sp.pairsOf (H.env []) (Ob.rgt (Ob.rgt h))).isSome = true ∧ UsP w (H.env []) (v.1 139) = (k.form, (Sp.pairsOf (H.env []) (Ob.rgt (Ob.rgt h))).getD []))) : HnD w H m (hs ++ [h]) := by
  obtain ⟨a1, a2, a3⟩ := hd
  have q : ∀ k, (35 ≤ k ∧ k ≤ 60) ∧ k ≠ 53 → w.1 k = v.1 k ∧ w.2.1 k = v.2.1 k := fun k hk => g.2.2.2.2 k (f7N_mid k (by omega))
  have ea : ∀ o : Ob, Ob.lft h ≠ o → (hs ++ [h]).any (fun x => decide (Ob.lft x = o)) = hs.any (fun x => decide (Ob.lft x = o)) := fun o ho => by
    rw [List.any_append]
    show (_ || (decide (Ob.lft h = o) || false)) = _
    rw [decide_eq_false ho, Bool.or_false, Bool.or_false]
  refine ⟨by rw [w135, ea _ h1]; exact a1, by rw [w133, ea _ h2]; exact a2, fun hz => ?_⟩
  obtain ⟨z0, n0, hor⟩ := hu hz
  obtain ⟨b1, b2, b3, b4⟩ := a3 z0
  have ku : ∀ i, 0 ≤ i → i < v.1 139 → UsE w (H.env []) i ∧ UsP w (H.env []) i = UsP v (H.env []) i := fun i i0 i1 => Us.keep hT hF g (q 42 (by decide)).1 (q 44 (by decide)).2 (w137 i i1).1 (w137 i i1).2 (b3 i i0 i1)
  refine ⟨by rw [offsOf_snoc, if_neg h1, List.append_nil]; exact b1, fun z => ?_, fun i i0 i1 => ?_, ?_⟩
  · rw [w133] at z
    obtain ⟨h', e1, e2⟩ := b2 z
    exact ⟨h', by rw [List.find?_append, e1]; rfl, e2.keep hD hT g (fun k a b => f7N_mid k (by omega)) w133 w134⟩
  · rcases hor with ⟨c1, _⟩ | ⟨c1, _, c3, _⟩
    · exact (ku i i0 (by omega)).1
    · by_cases c : i = v.1 139
      · rw [c]; exact c3
      · exact (ku i i0 (by omega)).1
  · rw [usesOf_snoc, b4]
    have e1 : (List.range (v.1 139).toNat).map (fun i : Nat => UsP v (H.env []) (i : Int)) = (List.range (v.1 139).toNat).map (fun i : Nat => UsP w (H.env []) (i : Int)) := List.map_congr_left (fun i hi => by
      have := List.mem_range.mp hi
      exact (ku (i : Int) (by omega) (by omega)).2.symm)
    rw [e1]
    rcases hor with ⟨c1, c2⟩ | ⟨c1, c2, c3, k, c4, c5, c6⟩
    · rw [if_neg c2, List.append_nil, c1]
    · rw [if_pos c2, c4, c1, show (v.1 139 + 1).toNat = (v.1 139).toNat + 1 by omega, List.range_succ, List.map_append]
      refine congrArg _ ?_
      obtain ⟨ps, hps⟩ := Option.isSome_iff_exists.mp c5
      rw [hps] at c6 ⊢
      show [(k.form, ps)] = [UsP w (H.env []) ((v.1 139).toNat : Int)]
      rw [show (((v.1 139).toNat : Nat) : Int) = v.1 139 by omega, c6]
      rfl
theorem p_hints [DecidableEq Ob] {l : Int} {Q : Int → iST → Prop} {u : iST} {H : Sp.Hs} {L : List Ob} (hX : HX u H []) (h71 : 0 ≤ u.1 71) (l0 : 0 ≤ l) (l1 : l < u.1 8) (eL : ob u l = Ob.ofList L) (hle : ∀ h, h ∈ L → (Ob.rgt (Ob.item h 1)).len ≤ 1000)
    (hq : ∀ v, HnI u v H L → Q (v.1 136) v) : pw_hints l Q u := by
  have hT := hX.1
  have hU := hX.2.1
  have hM0 : MuR u [] := hX.2.2.1.2.2.2.2.2.2
  unfold pw_hints
  intro w1 e1 w2 e2 _ w3 e3 w4 e4
  have w4r : w4.2 = u.2 := by rw [e4, e3, e2, e1]; rfl
  have w4n : ∀ k, k ≠ 133 → k ≠ 136 → k ≠ 135 → k ≠ 139 → w4.1 k = u.1 k := fun k a b c d => by rw [e4, e3, e2, e1]; exact (if_neg d).trans ((if_neg c).trans ((if_neg b).trans (if_neg a)))
  have n133 : w4.1 133 = -1 := by rw [e4, e3, e2, e1]; rfl
  have n136 : w4.1 136 = 0 := by rw [e4, e3, e2]; rfl
  have n135 : w4.1 135 = 0 := by rw [e4, e3]; rfl
  have n139 : w4.1 139 = 0 := by rw [e4]; rfl
  clear e1 e2 e3 e4
  have g4 : GZ f7N u w4 := GZ_eq (GZ.rf hT hU) (fun k hk => ⟨w4n k (by omega) (by omega) (by omega) (by omega), by rw [w4r]⟩) (by rw [w4r]) (fun k hk => by
    have a1 : k ≠ 133 := fun z => by rw [z] at hk; revert hk; decide
    have a2 : k ≠ 136 := fun z => by rw [z] at hk; revert hk; decide
    have a3 : k ≠ 135 := fun z => by rw [z] at hk; revert hk; decide
    have a4 : k ≠ 139 := fun z => by rw [z] at hk; revert hk; decide
    exact ⟨w4n k a1 a2 a3 a4, by rw [w4r]⟩)
  have eo4 : ∀ j, ob w4 j = ob u j := ob_same (by rw [w4r]) (by rw [w4r]) (by rw [w4r]) (by rw [w4r]) (by rw [w4r])
  refine pw_hints_22_i (fun x2 v => 0 ≤ x2 ∧ x2 < v.1 8 ∧ ∃ i : Nat, i ≤ L.length ∧ ob v x2 = Ob.ofList (L.drop i) ∧ HnI u v H (L.take i)) ?_ ⟨l0, by rw [w4n 8 (by decide) (by decide) (by decide) (by decide)]; exact l1, 0, Nat.zero_le _, by rw [eo4]; exact eL, g4, w4n 71 (by decide) (by decide) (by decide) (by decide), w4n 61 (by decide) (by decide) (by decide) (by decide), by rw [n136]; rfl, by omega, [], ?_, fun _ => ⟨?_, ?_, fun _ => ⟨rfl, fun z => absurd n133 z, fun i i0 i1 => by omega, by rw [n139]; rfl⟩⟩⟩
  rotate_left
  · intro r r0 r1
    rw [w4n 42 (by decide) (by decide) (by decide) (by decide)] at r1
    rw [w4r, eo4]; exact hM0 r r0 r1
  · rw [n135]; exact ⟨fun z => absurd rfl z, fun z => by cases z⟩
  · rw [n133]; exact ⟨fun z => absurd rfl z, fun z => by cases z⟩
  intro x2 v hI
  obtain ⟨x0, x1, i, hi, ex, hn⟩ := hI
  have hn' := hn
  obtain ⟨gv, v71, v61, v136, v139, m, hMv, hdv⟩ := hn
  have hTv := gv.1
  have hUv := gv.2.1
  have hXv := hX.hint gv hMv
  have rW : Sp.hintsAsk (H.env []) (L.take i) = 0 ∨ Sp.hintsAsk (H.env []) (L.take i) = 2 ∨ Sp.hintsAsk (H.env []) (L.take i) = 3 := hintsGo_range _ _ _ _ _ (Or.inl rfl)
  have Dv : DOk v (H.env []) := hXv.2.2.1.1
  have Fv : FmOk v (H.env []) := hXv.2.2.2.1
  unfold pw_hints_22b
  rcases list_step hTv hUv x0 x1 ex with ⟨z, hnil⟩ | ⟨z, h, rest, hcons, a0, a1, ea, b0, b1, eb⟩
  · refine ⟨fun _ => ?_, fun z' => absurd z z'⟩
    have hiL : i = L.length := by
      have := congrArg List.length hnil
      rw [List.length_drop] at this
      have : L.length - i = 0 := this
      omega
    rw [hiL, List.take_length] at hn'
    intro y ey _
    rw [ey]
    exact hq v hn'
  refine ⟨fun z' => absurd z' z, fun _ => ?_⟩
  have hi1 : i < L.length := by
    rcases Nat.lt_or_ge i L.length with q | q
    · exact q
    · rw [List.drop_eq_nil_of_le q] at hcons; cases hcons
  have hdj := List.drop_eq_getElem_cons hi1
  rw [hcons] at hdj
  injection hdj with hp hrest
  have hhL : h ∈ L := by rw [hp]; exact List.getElem_mem hi1
  have htk : L.take (i + 1) = L.take i ++ [h] := by rw [List.take_add_one, List.getElem?_eq_getElem hi1, ← hp]; rfl
  -- the next hint
  have next : ∀ q : iST, GZ f7N v q → HnI u q H (L.take i ++ [h]) → pw_hints_125 (fun x2 v => 0 ≤ x2 ∧ x2 < v.1 8 ∧ ∃ i : Nat, i ≤ L.length ∧ ob v x2 = Ob.ofList (L.drop i) ∧ HnI u v H (L.take i)) Q x2 q := by
    intro q gq hnq
    unfold pw_hints_125
    intro _ _ y ey _
    rw [(gq.2.2.1.2.1 x2 x0 x1).2.1] at ey
    rw [ey]
    have := gq.le
    refine ⟨b0, by omega, i + 1, hi1, ?_, by rw [htk]; exact hnq⟩
    rw [gq.ob hTv b0 b1, eb, hrest]
  -- it is none
  have none' : Sp.hintAsk (H.env []) h ((L.take i).any (fun x => decide (Ob.lft x = Ob.induct))) ((L.take i).any (fun x => decide (Ob.lft x = Ob.off))) = 2 → pw_hints_120 (fun x2 v => 0 ≤ x2 ∧ x2 < v.1 8 ∧ ∃ i : Nat, i ≤ L.length ∧ ob v x2 = Ob.ofList (L.drop i) ∧ HnI u v H (L.take i)) Q x2 v := by
    intro h2
    unfold pw_hints_120
    refine p_wrong hTv hUv (Or.inl rfl) (fun q gq q2 qn q136 => next q gq (hn'.next (a := 2) (m2 := m) gq (qn 71 (by decide)) (qn 61 (by decide)) (fun _ => h2.symm) (Or.inr (Or.inl rfl)) q136 (by rw [qn 139 (by decide)]; exact v139) ?_ (fun _ z => absurd rfl z)))
    intro r r0 r1
    rw [qn 42 (by decide)] at r1
    rw [q2, ob_same (v := q) (u := v) (by rw [q2]) (by rw [q2]) (by rw [q2]) (by rw [q2]) (by rw [q2])]
    exact hMv r r0 r1
  intro _ _ y ey _
  rw [ey]
  refine p_lengthOf hTv hUv a0 a1 ?_
  rw [ea]
  have ndis : ∀ {s t : List Int}, Ob.enc s ≠ Ob.enc t → Ob.sym s ≠ Ob.sym t := fun hst => Ob.sym_ne hst
  by_cases hl : h.len ≤ 0
  · refine ⟨fun _ => ?_, fun z' => absurd hl z'⟩
    have h2 : Sp.hintAsk (H.env []) h ((L.take i).any (fun x => decide (Ob.lft x = Ob.induct))) ((L.take i).any (fun x => decide (Ob.lft x = Ob.off))) = 2 := by
      unfold Sp.hintAsk; rw [if_pos (by omega)]
    unfold pw_hints_46
    refine ⟨fun _ => ?_, fun z' => absurd rfl z'⟩
    unfold pw_hints_72
    refine ⟨fun _ => ?_, fun z' => absurd rfl z'⟩
    unfold pw_hints_96
    exact ⟨fun _ => none' h2, fun z' => absurd rfl z'⟩
  refine ⟨fun z' => absurd z' hl, fun _ => ?_⟩
  have hl1 : 1 ≤ h.len := by omega
  obtain ⟨f0, f1, _, _, ef, _, _⟩ := ob_lft hTv a0 a1 (by rw [ea]; exact len_isPr hl1)
  rw [ea] at ef
  have kf : ∀ (c : Int) (o : Ob), 0 ≤ c → c < 44 → Ob.known[c.toNat]? = some o → (v.2.1 0 (v.2.1 0 x2) = c ↔ Ob.lft h = o) := fun c o c0 c4 ho => by
    rw [ef]; exact kat hTv hUv c c0 c4 ho f0 (by omega)
  have k27 := kf 27 Ob.induct (by decide) (by decide) rfl
  have k28 := kf 28 Ob.use (by decide) (by decide) rfl
  have k24 := kf 24 Ob.off (by decide) (by decide) rfl
  have hask : Sp.hintAsk (H.env []) h ((L.take i).any (fun x => decide (Ob.lft x = Ob.induct))) ((L.take i).any (fun x => decide (Ob.lft x = Ob.off))) = (if Ob.lft h = Ob.induct then (if (L.take i).any (fun x => decide (Ob.lft x = Ob.induct)) = true ∨ Ob.len h ≠ 2 then 2 else Sp.indAsk (H.env []) (Ob.item h 1)) else if Ob.lft h = Ob.use then Sp.useAsk (H.env []) h else if Ob.lft h = Ob.off then (if (L.take i).any (fun x => decide (Ob.lft x = Ob.off)) = true then 2 else Sp.offAsk (H.env []) h) else 2) := by
    unfold Sp.hintAsk; rw [if_neg (by omega)]
  have rA := hintAsk_range (H.env []) h ((L.take i).any (fun x => decide (Ob.lft x = Ob.induct))) ((L.take i).any (fun x => decide (Ob.lft x = Ob.off)))
  unfold pw_hints_46
  refine ⟨fun z' => absurd z' (by decide), fun _ => ?_⟩
  intro _ _ y2 ey2 _
  rw [ey2]
  refine ⟨fun hz27 => ?_, fun hz27 => ?_⟩
  rotate_left
  · -- induct
    have hind : Ob.lft h = Ob.induct := k27.mp (Decidable.not_not.mp hz27)
    rw [if_pos hind] at hask
    refine p_induction (E := H.env []) hTv hUv Dv a0 a1 (by rw [ea]; exact hl1) (by rw [ea]; exact hle h hhL) (fun q a gq q2 qn ha q136 hq133 hg => next q gq ?_)
    rw [ea] at ha hg
    have hMq : MuR q m := by
      intro r r0 r1
      rw [qn 42 (by decide) (by decide) (by decide)] at r1
      rw [q2, ob_same (v := q) (u := v) (by rw [q2]) (by rw [q2]) (by rw [q2]) (by rw [q2]) (by rw [q2])]
      exact hMv r r0 r1
    have hae : Sp.hintsAsk (H.env []) (L.take i) ≠ 2 → a = Sp.hintAsk (H.env []) h ((L.take i).any (fun x => decide (Ob.lft x = Ob.induct))) ((L.take i).any (fun x => decide (Ob.lft x = Ob.off))) := by
      intro hW
      rw [hask, ha]
      have := (hdv hW).2.1
      by_cases c : v.1 133 ≠ -1 ∨ h.len ≠ 2
      · rw [if_pos c, if_pos (c.imp (fun z => this.mp z) id)]
      · rw [if_neg c, if_neg (fun z => c (z.imp (fun z => this.mpr z) id))]
    have rindA : a = 0 ∨ a = 2 ∨ a = 3 := by
      rw [ha]
      split
      · exact Or.inr (Or.inl rfl)
      · have := hintAsk_range (H.env []) (.pr Ob.induct (.pr (Ob.item h 1) Ob.nil)) false false
        unfold Sp.hintAsk at this
        have l2 : Ob.len (.pr Ob.induct (.pr (Ob.item h 1) Ob.nil)) = 2 := by rw [Ob.len_pr, Ob.len_pr, Ob.len_nil]; rfl
        rw [if_neg (by rw [l2]; decide), if_pos (show Ob.lft (.pr Ob.induct (.pr (Ob.item h 1) Ob.nil)) = Ob.induct from rfl), if_neg (by rw [l2]; simp)] at this
        exact this
    refine hn'.next (a := a) (m2 := m) gq (qn 71 (by decide) (by decide) (by decide)) (qn 61 (by decide) (by decide) (by decide)) hae rindA q136 (by rw [qn 139 (by decide) (by decide) (by decide)]; exact v139) hMq (fun hW ha2 => ?_)
    obtain ⟨d1, d2, d3⟩ := hdv hW
    have hno : (L.take i).any (fun x => decide (Ob.lft x = Ob.induct)) = false := by
      cases e : (L.take i).any (fun x => decide (Ob.lft x = Ob.induct)) with
      | false => rfl
      | true => rw [if_pos (Or.inl (d2.mpr e))] at ha; exact absurd ha ha2
    have h133 : v.1 133 = -1 := by
      by_cases c : v.1 133 = -1
      · exact c
      · have := d2.mp c; rw [hno] at this; cases this
    refine ⟨?_, ?_, fun hz => ?_⟩
    · rw [qn 135 (by decide) (by decide) (by decide), List.any_append]
      show _ ↔ (_ || (decide (Ob.lft h = Ob.off) || false)) = true
      rw [decide_eq_false (by rw [hind]; exact Ob.sym_ne (by decide)), Bool.or_false, Bool.or_false]
      exact d1
    · rw [List.any_append]
      show _ ↔ (_ || (decide (Ob.lft h = Ob.induct) || false)) = true
      rw [decide_eq_true hind]
      exact ⟨fun _ => by simp, fun _ => hq133 ha2⟩
    · have hW0 : Sp.hintsAsk (H.env []) (L.take i) = 0 ∧ a = 0 := by
        rw [hints_snoc, if_neg hW, ← hae hW, if_neg ha2] at hz
        by_cases c : Sp.hintsAsk (H.env []) (L.take i) = 3
        · rw [if_pos c] at hz; cases hz
        · rw [if_neg c] at hz
          exact ⟨by omega, hz⟩
      obtain ⟨b1, b2, b3, b4⟩ := d3 hW0.1
      have nu : Ob.lft h ≠ Ob.use := by rw [hind]; exact Ob.sym_ne (by decide)
      have no' : Ob.lft h ≠ Ob.off := by rw [hind]; exact Ob.sym_ne (by decide)
      have ku : ∀ i', 0 ≤ i' → i' < v.1 139 → UsE q (H.env []) i' ∧ UsP q (H.env []) i' = UsP v (H.env []) i' := fun i' i0 i1 => Us.keep hTv Fv gq (qn 42 (by decide) (by decide) (by decide)) (by rw [q2]) (by rw [q2]) (by rw [q2]) (b3 i' i0 i1)
      refine ⟨by rw [offsOf_snoc, if_neg no', List.append_nil]; exact b1, fun _ => ⟨h, ?_, hg hW0.2⟩, fun i' i0 i1 => ?_, ?_⟩
      · rw [List.find?_append]
        have : (L.take i).find? (fun h => decide (Ob.lft h = Ob.induct)) = none := List.find?_eq_none.mpr (fun x hx => by
          have := List.any_eq_false.mp hno x hx
          exact this)
        rw [this, List.find?_cons_of_pos (by exact decide_eq_true hind)]
        rfl
      · rw [qn 139 (by decide) (by decide) (by decide)] at i1
        exact (ku i' i0 i1).1
      · rw [usesOf_snoc, if_neg nu, List.append_nil, b4, qn 139 (by decide) (by decide) (by decide)]
        exact List.map_congr_left (fun i' hi' => by
          have := List.mem_range.mp hi'
          exact (ku (i' : Int) (by omega) (by omega)).2.symm)
  have hni : Ob.lft h ≠ Ob.induct := fun z' => hz27 (k27.mpr z')
  rw [if_neg hni] at hask
  unfold pw_hints_72
  refine ⟨fun z' => absurd z' (by decide), fun _ => ?_⟩
  intro _ _ y3 ey3 _
  rw [ey3]
  refine ⟨fun hz28 => ?_, fun hz28 => ?_⟩
  rotate_left
  · -- use
    have huse : Ob.lft h = Ob.use := k28.mp (Decidable.not_not.mp hz28)
    rw [if_pos huse] at hask
    have hno' : Ob.lft h ≠ Ob.off := by rw [huse]; exact Ob.sym_ne (by decide)
    refine p_using (E := H.env m) hTv hUv hXv.2.2.1 hXv.2.2.2.1 a0 a1 (by rw [ea]; exact hl1) (by rw [v71]; exact h71) (by rw [v136]; omega) v139 (fun q gq q71 q61 q53 ⟨q133, q134, q135⟩ q136 q137 q139 hu => next q gq ?_)
    rw [ea] at q136 hu
    rw [useAsk_env] at q136
    have hu : Sp.useAsk (H.env []) h = 0 → q.1 139 = v.1 139 + 1 ∧ UsE q (H.env []) (v.1 139) ∧ ∃ k, Sp.Env.thmOf (H.env []) (Ob.item h 1) = some k ∧ UsP q (H.env []) (v.1 139) = (k.form, (Sp.pairsOf (H.env []) (Ob.rgt (Ob.rgt h))).getD []) := by
      intro hz
      have := hu (by rw [useAsk_env]; exact hz)
      unfold UsE UsP at this ⊢
      rw [pairsOf_env] at this
      exact this
    have gk : ∀ k, (35 ≤ k ∧ k ≤ 60) ∧ k ≠ 53 → q.1 k = v.1 k ∧ q.2.1 k = v.2.1 k := fun k hk => gq.2.2.2.2 k (f7N_mid k (by omega))
    have hMq : MuR q m := by
      intro r r0 r1
      rw [(gk 42 (by decide)).1] at r1
      have a := (hXv.2.2.1.2.2.2.2.2.1 r r0 r1).1
      rw [q53, (gk 43 (by decide)).2, gq.ob hTv a.1 a.2]
      exact hMv r r0 r1
    rw [← hask] at q136
    refine hn'.next (m2 := m) gq q71 q61 (fun _ => rfl) rA q136 (by omega) hMq (fun hW ha2 => ?_)
    refine (hdv hW).keep hTv Dv Fv gq hno' hni q135 q133 q134 q137 (fun hz => ?_)
    have hW0 : Sp.hintsAsk (H.env []) (L.take i) = 0 ∧ Sp.useAsk (H.env []) h = 0 := by
      rw [hints_snoc, if_neg hW, if_neg ha2] at hz
      by_cases c : Sp.hintsAsk (H.env []) (L.take i) = 3
      · rw [if_pos c] at hz; cases hz
      · rw [if_neg c] at hz
        exact ⟨by omega, by rw [← hask]; exact hz⟩
    obtain ⟨c1, c2, k, c3, c4⟩ := hu hW0.2
    refine ⟨hW0.1, v139, Or.inr ⟨c1, huse, c2, k, c3, ?_, c4⟩⟩
    have hu0 := hW0.2
    unfold Sp.useAsk at hu0
    split at hu0
    · cases e : Sp.pairsOf (H.env []) (Ob.rgt (Ob.rgt h)) with
      | none => rw [e] at hu0; cases hu0
      | some ps => rfl
    · cases hu0
  have hnu : Ob.lft h ≠ Ob.use := fun z' => hz28 (k28.mpr z')
  rw [if_neg hnu] at hask
  unfold pw_hints_96
  refine ⟨fun z' => absurd z' (by decide), fun _ => ?_⟩
  intro _ _ y4 ey4 _
  rw [ey4]
  refine ⟨fun hz24 => none' (by rw [hask, if_neg (fun z' => hz24 (k24.mpr z'))]), fun hz24 => ?_⟩
  -- off
  have hoff : Ob.lft h = Ob.off := k24.mp (Decidable.not_not.mp hz24)
  rw [if_pos hoff] at hask
  refine p_turningOff (H := H) (m := m) hTv hUv hXv.2.2.1 hXv.names a0 a1 (by rw [ea]; exact hl1) (by rw [v136]; omega) (fun q a m' gq q71 q61 hMq ha q136 hq135 hm' qn qr => next q gq ?_)
  rw [ea] at ha hm'
  have eO : Sp.offAsk (H.env m) h = Sp.offAsk (H.env []) h := rfl
  rw [eO] at ha
  have hae : Sp.hintsAsk (H.env []) (L.take i) ≠ 2 → a = Sp.hintAsk (H.env []) h ((L.take i).any (fun x => decide (Ob.lft x = Ob.induct))) ((L.take i).any (fun x => decide (Ob.lft x = Ob.off))) := by
    intro hW
    rw [hask, ha]
    have := (hdv hW).1
    by_cases c : v.1 135 ≠ 0
    · rw [if_pos c, if_pos (this.mp c)]
    · rw [if_neg c, if_neg (fun z => c (this.mpr z))]
  have raA : a = 0 ∨ a = 2 ∨ a = 3 := by
    rw [ha]
    split
    · exact Or.inr (Or.inl rfl)
    · unfold Sp.offAsk
      split
      · split
        · exact Or.inl rfl
        · exact Or.inr (Or.inr rfl)
      · exact Or.inr (Or.inl rfl)
  refine hn'.next (a := a) (m2 := m ++ m') gq q71 q61 hae raA q136 (by rw [qn 139 (by decide) (by decide)]; exact v139) hMq (fun hW ha2 => ?_)
  obtain ⟨d1, d2, d3⟩ := hdv hW
  refine ⟨?_, ?_, fun hz => ?_⟩
  · rw [List.any_append]
    show _ ↔ (_ || (decide (Ob.lft h = Ob.off) || false)) = true
    rw [decide_eq_true hoff]
    exact ⟨fun _ => by simp, fun _ => hq135 ha2⟩
  · rw [qn 133 (by decide) (by decide), List.any_append]
    show _ ↔ (_ || (decide (Ob.lft h = Ob.induct) || false)) = true
    rw [decide_eq_false hni, Bool.or_false, Bool.or_false]
    exact d2
  · have hW0 : Sp.hintsAsk (H.env []) (L.take i) = 0 ∧ a = 0 := by
      rw [hints_snoc, if_neg hW, ← hae hW, if_neg ha2] at hz
      by_cases c : Sp.hintsAsk (H.env []) (L.take i) = 3
      · rw [if_pos c] at hz; cases hz
      · rw [if_neg c] at hz
        exact ⟨by omega, hz⟩
    obtain ⟨b1, b2, b3, b4⟩ := d3 hW0.1
    have ku : ∀ i', 0 ≤ i' → i' < v.1 139 → UsE q (H.env []) i' ∧ UsP q (H.env []) i' = UsP v (H.env []) i' := fun i' i0 i1 => Us.keep hTv Fv gq (qn 42 (by decide) (by decide)) (qr 44 (by decide)) (by rw [qr 137 (by decide)]) (by rw [qr 138 (by decide)]) (b3 i' i0 i1)
    refine ⟨by rw [offsOf_snoc, if_pos hoff, b1, hm' hW0.2], fun z' => ?_, fun i' i0 i1 => ?_, ?_⟩
    · rw [qn 133 (by decide) (by decide)] at z'
      obtain ⟨h', e1, e2⟩ := b2 z'
      exact ⟨h', by rw [List.find?_append, e1]; rfl, e2.keep Dv hTv gq (fun k a b => f7N_mid k (by omega)) (qn 133 (by decide) (by decide)) (qn 134 (by decide) (by decide))⟩
    · rw [qn 139 (by decide) (by decide)] at i1
      exact (ku i' i0 i1).1
    · rw [usesOf_snoc, if_neg hnu, List.append_nil, b4, qn 139 (by decide) (by decide)]
      exact List.map_congr_left (fun i' hi' => by
        have := List.mem_range.mp hi'
        exact (ku (i' : Int) (by omega) (by omega)).2.symm)
