-- deps: 522
/-! the reference: use, off -/
theorem wrs_wrs [DecidableEq Ob] (w a b : Int) (ha : a = 0 ∨ a = 2 ∨ a = 3) (hb : b = 0 ∨ b = 2 ∨ b = 3) (hw : 0 ≤ w) : wrs (wrs w a) b = wrs w (if a = 2 ∨ b = 2 then 2 else if a = 3 ∨ b = 3 then 3 else 0) := by
  unfold wrs
  rcases ha with a1 | a1 | a1 <;> rcases hb with b1 | b1 | b1 <;> rw [a1, b1] <;> simp <;> (try split) <;> (try split) <;> (try split) <;> omega
theorem wrs_low [DecidableEq Ob] {w a : Int} (ha : a = 0 ∨ a = 2 ∨ a = 3) (hw : 0 ≤ w) : 0 ≤ wrs w a := by
  unfold wrs
  split
  · exact hw
  · split <;> omega
theorem pairsGo_keys [DecidableEq Ob] {E : Sp.Env} : ∀ (L : List Ob) (acc ps : List (Ob × Ob)), Sp.pairsGo E L acc = some ps → ps.map (·.1) = acc.map (·.1) ++ L.map Ob.lft ∧ ∀ p, p ∈ L → p.len = 2
  | [], acc, ps, h => by
    have h : some acc = some ps := h
    rw [← Option.some.inj h]
    exact ⟨by simp, fun p hp => by cases hp⟩
  | p :: L, acc, ps, h => by
    rw [pairsGo_cons] at h
    split at h
    · next c =>
      cases e : Ob.rdT (Sp.arOf E) (Ob.item p 1) with
      | none => rw [e] at h; cases h
      | some T =>
        rw [e] at h
        obtain ⟨i1, i2⟩ := pairsGo_keys L _ ps h
        refine ⟨by rw [i1]; simp, fun q hq => ?_⟩
        rcases List.mem_cons.mp hq with z | z
        · rw [z]; exact c.1
        · exact i2 q z
    · cases h
/-- what a use gives -/
def UsE [DecidableEq Ob] (v : iST) (E : Sp.Env) (i : Int) : Prop := (0 ≤ v.2.1 137 i ∧ v.2.1 137 i < v.1 42) ∧ (0 ≤ v.2.1 138 i ∧ v.2.1 138 i < v.1 8) ∧ (Sp.pairsOf E (ob v (v.2.1 138 i))).isSome = true
def UsP [DecidableEq Ob] (v : iST) (E : Sp.Env) (i : Int) : Ob × List (Ob × Ob) := (ob v (v.2.1 44 (v.2.1 137 i)), (Sp.pairsOf E (ob v (v.2.1 138 i))).getD [])
theorem p_using [DecidableEq Ob] {h : Int} {Q : iST → Prop} {u : iST} {E : Sp.Env} (hT : TI u) (hU : TU u) (hE : EnvS u E) (hF : FmOk u E) (h0 : 0 ≤ h) (h1 : h < u.1 8) (hl : 1 ≤ (ob u h).len) (h71 : 0 ≤ u.1 71) (w0 : 0 ≤ u.1 136) (n139 : 0 ≤ u.1 139)
    (hq : ∀ v, GZ f7N u v → v.1 71 = u.1 71 → v.1 61 = u.1 61 → v.2.1 53 = u.2.1 53 → (v.1 133 = u.1 133 ∧ v.1 134 = u.1 134 ∧ v.1 135 = u.1 135) → v.1 136 = wrs (u.1 136) (Sp.useAsk E (ob u h)) → (∀ i, i < u.1 139 → v.2.1 137 i = u.2.1 137 i ∧ v.2.1 138 i = u.2.1 138 i) → u.1 139 ≤ v.1 139 → (Sp.useAsk E (ob u h) = 0 → v.1 139 = u.1 139 + 1 ∧ UsE v E (u.1 139) ∧ ∃ k, E.thmOf (Ob.item (ob u h) 1) = some k ∧ UsP v E (u.1 139) = (k.form, (Sp.pairsOf E (Ob.rgt (Ob.rgt (ob u h)))).getD [])) → Q v) : pw_using h Q u := by
  -- what is not as told
  have no : ∀ (w : iST) (a : Int), GM u w → w.1 61 = u.1 61 → (a = 2 ∨ a = 3) → Sp.useAsk E (ob u h) = a → pw_wrong a Q w := by
    intro w a gw w61 ha hz
    have n3 : ∀ k, 133 ≤ k → k ≤ 139 → w.1 k = u.1 k ∧ w.2.1 k = u.2.1 k := fun k b c => gw.1.2.2.2.2 k (by unfold f7M fI; simp only [Bool.or_eq_false_iff, decide_eq_false_iff_not]; omega)
    refine p_wrong gw.1.1 gw.1.2.1 ha (fun v gv v2 vn v136 => hq v ((gw.1.mono f7M_N).tr gv) (by rw [vn 71 (by decide)]; exact gw.2.1) (by rw [vn 61 (by decide)]; exact w61) ?_ ⟨?_, ?_, ?_⟩ ?_ (fun i _ => ?_) ?_ (fun z => by omega))
    · rw [v2, (gw.1.2.2.2.2 53 (by decide)).2]
    · rw [vn 133 (by decide), (n3 133 (by decide) (by decide)).1]
    · rw [vn 134 (by decide), (n3 134 (by decide) (by decide)).1]
    · rw [vn 135 (by decide), (n3 135 (by decide) (by decide)).1]
    · rw [v136, (n3 136 (by decide) (by decide)).1, hz]
    · rw [v2, (n3 137 (by decide) (by decide)).2, (n3 138 (by decide) (by decide)).2]; exact ⟨rfl, rfl⟩
    · rw [vn 139 (by decide), (n3 139 (by decide) (by decide)).1]; exact Int.le_refl _
  have no42 : ∀ w : iST, GM u w → w.1 61 = u.1 61 → Sp.useAsk E (ob u h) = 2 → pw_using_42 Q w := by
    intro w gw w61 hz
    unfold pw_using_42
    exact no w 2 gw w61 (Or.inl rfl) hz
  unfold pw_using
  refine p_lengthOf hT hU h0 h1 ⟨fun hz => no42 u (GM.rf hT hU) rfl ?_, fun hz => ?_⟩
  · unfold Sp.useAsk; rw [if_neg (fun z => by omega)]
  have h2 : 2 ≤ (ob u h).len := by omega
  have hpr := len_isPr hl
  obtain ⟨_, _, r0, r1, _, er, _⟩ := ob_lft hT h0 h1 hpr
  have hlr : 1 ≤ (Ob.rgt (ob u h)).len := by
    cases e : ob u h with
    | var x => rw [e] at hpr; cases hpr
    | op a b =>
      rw [e] at h2
      show 1 ≤ Ob.len b
      have h2 : 2 ≤ Ob.len (.pr a b) := h2
      rw [Ob.len_pr] at h2
      split at h2 <;> omega
  obtain ⟨_, _, rr0, rr1, _, err, _⟩ := ob_lft hT r0 (by omega) (by rw [← er]; exact len_isPr hlr)
  rw [← er] at err
  refine p_nthL hT h0 h1 (by decide) (by omega) (fun n n0 n1 en => ?_)
  have en : ob u n = Ob.item (ob u h) 1 := en
  refine p_isNewName hT hU n0 n1 (fun b hb => ⟨fun hz2 => no42 u (GM.rf hT hU) rfl ?_, fun hz2 => ?_⟩)
  · unfold Sp.useAsk; rw [if_neg (fun z => by have := z.2; rw [← en, hb.f hz2] at this; cases this)]
  have hnm : Ob.isName (Ob.item (ob u h) 1) = true := by rw [← en]; exact hb.t hz2
  have hask : Sp.useAsk E (ob u h) = (match Sp.pairsOf E (Ob.rgt (Ob.rgt (ob u h))) with | none => 2 | some ps => match E.thmOf (Ob.item (ob u h) 1) with | none => 3 | some k => if ps.all (fun p => Ob.has (Ob.parts k.form) p.1) = true then 0 else 2) := by
    unfold Sp.useAsk
    rw [if_pos ⟨h2, hnm⟩]
    cases Sp.pairsOf E (Ob.rgt (Ob.rgt (ob u h))) with
    | none => rfl
    | some ps => cases E.thmOf (Ob.item (ob u h) 1) <;> rfl
  intro _ _ y ey _ _ _ y2 ey2 _
  rw [ey] at ey2
  rw [ey2]
  refine p_arePairs hT hU hE.1 hE.2.1 rr0 (by omega) h71 (fun b2 w gw w61 hb2 => ?_)
  rw [← err] at hb2
  refine ⟨fun hz3 => ?_, fun hz3 => no42 w gw w61 ?_⟩
  rotate_left
  · have := hb2.f (Decidable.not_not.mp hz3)
    rw [hask]
    cases e : Sp.pairsOf E (Ob.rgt (Ob.rgt (ob u h))) with
    | none => rfl
    | some ps => rw [e] at this; cases this
  have hsome := hb2.t hz3
  obtain ⟨ps, hps⟩ := Option.isSome_iff_exists.mp hsome
  rw [hps] at hask
  have hlew := gw.le
  have ewh : ob w h = ob u h := gw.ob hT h0 h1
  refine p_nthL gw.1.1 h0 (by omega) (by decide) (by rw [ewh]; omega) (fun m m0 m1 em => ?_)
  rw [ewh] at em
  have em : ob w m = Ob.item (ob u h) 1 := em
  have hEw : EnvS w E := hE.mono hT (gw.1.mono f7M_J)
  have hFw : FmOk w E := hF.mono hT gw.1 ((gw.1.2.2.2.2 42 (by decide)).1) ((gw.1.2.2.2.2 44 (by decide)).2)
  refine p_theoremOf gw.1.1 gw.1.2.1 hEw.2.2.2 m0 m1 (fun hn => ?_) (fun d d0 d1 ed hds _ => ?_)
  · rw [em] at hn
    exact ⟨fun z => absurd rfl z, fun _ => no w 3 gw w61 (Or.inr rfl) (by rw [hask, hn])⟩
  rw [em] at hds
  rw [hds] at hask
  refine ⟨fun _ => ?_, fun z => by have := Decidable.not_not.mp z; omega⟩
  have exw := gw.1.2.2.1.2.1
  intro _ _ y3 ey3 _ _ _ y4 ey4 _
  rw [(exw h h0 h1).2.1] at ey3
  rw [ey3, (exw _ r0 (by omega)).2.1] at ey4
  rw [ey4]
  have hFd := hFw d d0 d1
  have hform : (thm1 w d).form = ob w (w.2.1 44 d) := rfl
  have hlen : (Ob.rgt (Ob.rgt (ob u h))).len ≠ -1 := by
    intro z
    unfold Sp.pairsOf at hps
    rw [if_pos z] at hps; cases hps
  have hgo : Sp.pairsGo E (Ob.toList (Ob.rgt (Ob.rgt (ob u h)))) [] = some ps := by
    unfold Sp.pairsOf at hps
    rw [if_neg hlen] at hps; exact hps
  obtain ⟨keys, two⟩ := pairsGo_keys _ _ _ hgo
  have eL := Ob.ofList_toList _ hlen
  generalize hLL : Ob.toList (Ob.rgt (Ob.rgt (ob u h))) = L at keys two eL
  have hall : ps.all (fun p => Ob.has (Ob.parts (thm1 w d).form) p.1) = L.all (fun q => Ob.has (Ob.parts (thm1 w d).form) (Ob.lft q)) := by
    have e1 : ps.all (fun p => Ob.has (Ob.parts (thm1 w d).form) p.1) = (ps.map (·.1)).all (fun x => Ob.has (Ob.parts (thm1 w d).form) x) := by rw [List.all_map]; rfl
    rw [e1, keys]
    show (L.map Ob.lft).all _ = _
    rw [List.all_map]; rfl
  have hask : Sp.useAsk E (ob u h) = if ps.all (fun p => Ob.has (Ob.parts (thm1 w d).form) p.1) = true then 0 else 2 := hask
  rw [hall] at hask
  have hask : Sp.useAsk E (ob u h) = if L.all (fun q => Ob.has (Ob.parts (thm1 w d).form) (Ob.lft q)) = true then 0 else 2 := hask
  have n3 : ∀ k, 133 ≤ k → k ≤ 139 → w.1 k = u.1 k ∧ w.2.1 k = u.2.1 k := fun k b c => gw.1.2.2.2.2 k (by unfold f7M fI; simp only [Bool.or_eq_false_iff, decide_eq_false_iff_not]; omega)
  have w8rr : ob w (u.2.1 1 (u.2.1 1 h)) = Ob.ofList L := by rw [gw.ob hT rr0 (by omega), ← err]; exact eL.symm
  refine pw_using_83_i (fun x1 x3 x4 v => x1 = h ∧ x3 = d ∧ 0 ≤ x4 ∧ x4 < v.1 8 ∧ GZ f7N w v ∧ (∀ k, k ≠ 75 → k ≠ 76 → k ≠ 136 → v.1 k = w.1 k) ∧ (∀ k, k ≠ 75 → k ≠ 76 → v.2.1 k = w.2.1 k) ∧ ∃ i : Nat, i ≤ L.length ∧ ob v x4 = Ob.ofList (L.drop i) ∧ v.1 136 = wrs (u.1 136) (if (L.take i).all (fun q => Ob.has (Ob.parts (thm1 w d).form) (Ob.lft q)) = true then 0 else 2)) ?_ ⟨rfl, rfl, rr0, by omega, GZ.rf gw.1.1 gw.1.2.1, fun _ _ _ _ => rfl, fun _ _ _ => rfl, 0, Nat.zero_le _, w8rr, by rw [(n3 136 (by decide) (by decide)).1]; rfl⟩
  intro x1 x3 x4 v hI
  obtain ⟨e1, e3, x40, x41, gv, vn, vr', i, hi, ei, v136⟩ := hI
  rw [e1, e3]
  have hTv := gv.1
  have hUv := gv.2.1
  unfold pw_using_83b
  rcases list_step hTv hUv x40 x41 ei with ⟨z, hnil⟩ | ⟨z, p, rest, hcons, a0, a1, ea, b0, b1, eb⟩
  · refine ⟨fun _ => ?_, fun z' => absurd z z'⟩
    have hiL : i = L.length := by
      have := congrArg List.length hnil
      rw [List.length_drop] at this
      have : L.length - i = 0 := this
      omega
    rw [hiL, List.take_length, ← hask] at v136
    intro c ec _ _ _ t1 et1 c2 ec2 _ _ _ c3 ec3 _ _ _ c4 ec4 _ _ _ t2 et2 c5 ec5 _ _ t3 et3
    have v139 : v.1 139 = u.1 139 := by rw [vn 139 (by decide) (by decide) (by decide), (n3 139 (by decide) (by decide)).1]
    rw [v139] at ec
    have hc2 : c2 = u.1 139 := by rw [ec2, et1]; exact v139
    have hc5 : c5 = u.1 139 := by rw [ec5, et2, et1]; exact v139
    have hc3 : c3 = u.2.1 1 h := by rw [ec3, et1]; show v.2.1 1 h = _; rw [vr' 1 (by decide) (by decide), (exw h h0 h1).2.1]
    have hc4 : c4 = u.2.1 1 (u.2.1 1 h) := by rw [ec4, et1, hc3]; show v.2.1 1 (u.2.1 1 h) = _; rw [vr' 1 (by decide) (by decide), (exw _ r0 (by omega)).2.1]
    rw [ec] at et1
    rw [hc2, hc4] at et2
    rw [hc5] at et3
    have gt : GZ f7N v t3 := by
      rw [et3, et2, et1]
      exact GZ_eq (GZ.rf hTv hUv) (fun k hk => ⟨if_neg (by omega), (if_neg (by omega)).trans (if_neg (by omega))⟩) rfl (((Fx_A (by decide)).tr (Fx_A (by decide))).tr (Fx_I (by decide)))
    have tn : ∀ k, k ≠ 139 → t3.1 k = v.1 k := fun k hk => by rw [et3, et2, et1]; exact if_neg hk
    have t139 : t3.1 139 = u.1 139 + 1 := by rw [et3]; rfl
    have tr : ∀ k, k ≠ 137 → k ≠ 138 → t3.2.1 k = v.2.1 k := fun k a b => by rw [et3, et2, et1]; exact (if_neg b).trans (if_neg a)
    have t137 : ∀ j, t3.2.1 137 j = if j = u.1 139 then d else v.2.1 137 j := fun j => by rw [et3, et2, et1]; rfl
    have t138 : ∀ j, t3.2.1 138 j = if j = u.1 139 then u.2.1 1 (u.2.1 1 h) else v.2.1 138 j := fun j => by rw [et3, et2, et1]; rfl
    clear et1 et2 et3 ec2 ec3 ec4 ec5
    have gwt := gv.tr gt
    have erot : ob t3 (u.2.1 1 (u.2.1 1 h)) = Ob.ofList L := by rw [gwt.ob gw.1.1 rr0 (by omega)]; exact w8rr
    have efot : ob t3 (w.2.1 44 d) = ob w (w.2.1 44 d) := gwt.ob gw.1.1 hFd.1 hFd.2.1
    refine hq t3 ((gw.1.mono f7M_N).tr (gv.tr gt)) ?_ ?_ ?_ ⟨?_, ?_, ?_⟩ ?_ (fun j hj => ⟨?_, ?_⟩) (by omega) (fun hz => ⟨t139, ⟨⟨?_, ?_⟩, ⟨?_, ?_⟩, ?_⟩, thm1 w d, hds, ?_⟩)
    · rw [tn 71 (by decide), vn 71 (by decide) (by decide) (by decide)]; exact gw.2.1
    · rw [tn 61 (by decide), vn 61 (by decide) (by decide) (by decide)]; exact w61
    · rw [tr 53 (by decide) (by decide), vr' 53 (by decide) (by decide), (gw.1.2.2.2.2 53 (by decide)).2]
    · rw [tn 133 (by decide), vn 133 (by decide) (by decide) (by decide), (n3 133 (by decide) (by decide)).1]
    · rw [tn 134 (by decide), vn 134 (by decide) (by decide) (by decide), (n3 134 (by decide) (by decide)).1]
    · rw [tn 135 (by decide), vn 135 (by decide) (by decide) (by decide), (n3 135 (by decide) (by decide)).1]
    · rw [tn 136 (by decide), v136]
    · rw [t137, if_neg (by omega), vr' 137 (by decide) (by decide), (n3 137 (by decide) (by decide)).2]
    · rw [t138, if_neg (by omega), vr' 138 (by decide) (by decide), (n3 138 (by decide) (by decide)).2]
    · rw [t137, if_pos rfl]; exact d0
    · rw [t137, if_pos rfl, tn 42 (by decide), vn 42 (by decide) (by decide) (by decide)]; exact d1
    · rw [t138, if_pos rfl]; exact rr0
    · rw [t138, if_pos rfl, tn 8 (by decide), vn 8 (by decide) (by decide) (by decide)]; omega
    · rw [t138, if_pos rfl, erot, eL, hps]; rfl
    · unfold UsP
      rw [t137, if_pos rfl, t138, if_pos rfl, tr 44 (by decide) (by decide), vr' 44 (by decide) (by decide), efot, erot, eL]
      rfl
  · refine ⟨fun z' => absurd z' z, fun _ => ?_⟩
    have hi1 : i < L.length := by
      rcases Nat.lt_or_ge i L.length with q | q
      · exact q
      · rw [List.drop_eq_nil_of_le q] at hcons; cases hcons
    have hdj := List.drop_eq_getElem_cons hi1
    rw [hcons] at hdj
    injection hdj with hp hrest
    have hp2 : p.len = 2 := by rw [hp]; exact two _ (List.getElem_mem hi1)
    obtain ⟨c0, c1, _, _, ec, _, _⟩ := ob_lft hTv a0 a1 (by rw [ea]; exact (lft_item hp2).1)
    rw [ea] at ec
    intro _ _ t ht _ _ _ t2 ht2 _ _ _ t3 ht3 _
    rw [vr' 44 (by decide) (by decide)] at ht
    rw [ht2] at ht3
    rw [ht, ht3]
    obtain ⟨nd, ed'⟩ := hFd.mono gw.1.1 gv
    have v136' : 0 ≤ v.1 136 := by rw [v136]; exact wrs_low (by split <;> simp) w0
    refine p_hasVariable (ar := Sp.arOf E) hTv hUv nd c0 (by omega) (fun b3 s gs hb3 => ?_)
    rw [ed', ← ec, ← hform, hp] at hb3
    have hleq := gs.le
    have sq : ∀ k, k ≠ 75 → k ≠ 76 → s.1 k = v.1 k ∧ s.2.1 k = v.2.1 k := fun k a b => gs.2.2.2.2 k (by unfold f7W; simp only [decide_eq_false_iff_not]; omega)
    have hnx : (L.take (i + 1)).all (fun q => Ob.has (Ob.parts (thm1 w d).form) (Ob.lft q)) = ((L.take i).all (fun q => Ob.has (Ob.parts (thm1 w d).form) (Ob.lft q)) && Ob.has (Ob.parts (thm1 w d).form) (Ob.lft L[i])) := by
      rw [List.take_add_one, List.getElem?_eq_getElem hi1, List.all_append]
      show (_ && (_ && true)) = _
      rw [Bool.and_true]
    have gws := gv.tr (gs.mono f7W_N)
    -- the next pair
    have next : ∀ (q : iST), GZ f7N s q → (∀ k, k ≠ 136 → q.1 k = s.1 k) → q.2 = s.2 → q.1 136 = wrs (u.1 136) (if (L.take (i + 1)).all (fun q => Ob.has (Ob.parts (thm1 w d).form) (Ob.lft q)) = true then 0 else 2) → pw_using_118 (fun x1 x3 x4 v => x1 = h ∧ x3 = d ∧ 0 ≤ x4 ∧ x4 < v.1 8 ∧ GZ f7N w v ∧ (∀ k, k ≠ 75 → k ≠ 76 → k ≠ 136 → v.1 k = w.1 k) ∧ (∀ k, k ≠ 75 → k ≠ 76 → v.2.1 k = w.2.1 k) ∧ ∃ i : Nat, i ≤ L.length ∧ ob v x4 = Ob.ofList (L.drop i) ∧ v.1 136 = wrs (u.1 136) (if (L.take i).all (fun q => Ob.has (Ob.parts (thm1 w d).form) (Ob.lft q)) = true then 0 else 2)) Q h d x4 q := by
      intro q gq qn q2 q136
      unfold pw_using_118
      intro _ _ t4 et4 _
      rw [q2, (sq 1 (by decide) (by decide)).2] at et4
      rw [et4]
      have gvq := (gs.mono f7W_N).tr gq
      have hlq := gvq.le
      refine ⟨rfl, rfl, b0, by omega, gws.tr gq, fun k a b c => by rw [qn k c, (sq k a b).1, vn k a b c], fun k a b => by rw [q2, (sq k a b).2, vr' k a b], i + 1, hi1, ?_, q136⟩
      rw [gvq.ob hTv b0 b1, eb, hrest]
    have s136 : s.1 136 = v.1 136 := (sq 136 (by decide) (by decide)).1
    refine ⟨fun hd => next s (GZ.rf gs.1 gs.2.1) (fun _ _ => rfl) rfl ?_, fun hd => ?_⟩
    · rw [s136, v136, hnx, hb3.t hd, Bool.and_true]
    · refine p_wrong gs.1 gs.2.1 (Or.inl rfl) (fun q gq q2 qn q136 => next q gq qn q2 ?_)
      rw [q136, s136, v136, hnx, hb3.f (Decidable.not_not.mp hd), Bool.and_false, wrs_wrs _ _ _ (by split <;> simp) (Or.inr (Or.inl rfl)) w0, if_pos (Or.inr rfl), if_neg (by decide)]
/-- what is muted -/
def MuR [DecidableEq Ob] (v : iST) (m : List Ob) : Prop := ∀ r, 0 ≤ r → r < v.1 42 → (v.2.1 53 r ≠ 0 ↔ Ob.has m (ob v (v.2.1 43 r)) = true)
def offW [DecidableEq Ob] (E : Sp.Env) (l : List Ob) : Int := if l.all Ob.isName = true then (if l.all (fun n => (E.thmOf n).isSome) = true then 0 else 3) else 2
theorem offW_range [DecidableEq Ob] (E : Sp.Env) (l : List Ob) : offW E l = 0 ∨ offW E l = 2 ∨ offW E l = 3 := by
  unfold offW
  split
  · split
    · exact Or.inl rfl
    · exact Or.inr (Or.inr rfl)
  · exact Or.inr (Or.inl rfl)
theorem offW_snoc [DecidableEq Ob] (E : Sp.Env) (l : List Ob) (x : Ob) : offW E (l ++ [x]) = if offW E l = 2 ∨ (if x.isName = true then (if (E.thmOf x).isSome = true then (0 : Int) else 3) else 2) = 2 then 2 else if offW E l = 3 ∨ (if x.isName = true then (if (E.thmOf x).isSome = true then (0 : Int) else 3) else 2) = 3 then 3 else 0 := by
  unfold offW
  rw [List.all_append, List.all_append]
  have e1 : [x].all Ob.isName = x.isName := by show (x.isName && true) = _; rw [Bool.and_true]
  have e2 : [x].all (fun n => (E.thmOf n).isSome) = (E.thmOf x).isSome := by show ((E.thmOf x).isSome && true) = _; rw [Bool.and_true]
  rw [e1, e2]
  cases l.all Ob.isName <;> cases x.isName <;> cases (l.all (fun n => (E.thmOf n).isSome)) <;> cases (E.thmOf x).isSome <;> rfl
theorem p_turningOff [DecidableEq Ob] {h : Int} {Q : iST → Prop} {u : iST} {H : Sp.Hs} {m : List Ob} (hT : TI u) (hU : TU u) (hE : EnvS u (H.env m)) (hnd : ∀ r r', 0 ≤ r → r < u.1 42 → 0 ≤ r' → r' < u.1 42 → ob u (u.2.1 43 r) = ob u (u.2.1 43 r') → r = r')  (h0 : 0 ≤ h) (h1 : h < u.1 8) (hl : 1 ≤ (ob u h).len) (w0 : 0 ≤ u.1 136)
    (hq : ∀ v a m', GZ f7N u v → v.1 71 = u.1 71 → v.1 61 = u.1 61 → MuR v (m ++ m') → a = (if u.1 135 ≠ 0 then 2 else Sp.offAsk (H.env m) (ob u h)) → v.1 136 = wrs (u.1 136) a → (a ≠ 2 → v.1 135 ≠ 0) → (a = 0 → m' = Ob.toList (Ob.rgt (ob u h))) → (∀ k, k ≠ 135 → k ≠ 136 → v.1 k = u.1 k) → (∀ k, k ≠ 53 → v.2.1 k = u.2.1 k) → Q v) : pw_turningOff h Q u := by
  have hM : MuR u m := hE.2.2.2.2.2.2
  have no : (if u.1 135 ≠ 0 then (2 : Int) else Sp.offAsk (H.env m) (ob u h)) = 2 → pw_turningOff_18 Q u := by
    intro hz
    unfold pw_turningOff_18
    refine p_wrong hT hU (Or.inl rfl) (fun v gv v2 vn v136 => hq v 2 [] gv (vn 71 (by decide)) (vn 61 (by decide)) ?_ hz.symm v136 (fun z => absurd rfl z) (fun z => by cases z) (fun k _ c => vn k c) (fun k _ => by rw [v2]))
    intro r r0 r1
    rw [vn 42 (by decide)] at r1
    rw [v2, List.append_nil]
    have eo : ∀ j, ob v j = ob u j := ob_same (by rw [v2]) (by rw [v2]) (by rw [v2]) (by rw [v2]) (by rw [v2])
    rw [eo]
    exact hM r r0 r1
  unfold pw_turningOff
  refine p_lengthOf hT hU h0 h1 ⟨fun hz => no ?_, fun hz => ?_⟩
  · by_cases q : u.1 135 ≠ 0
    · rw [if_pos q]
    · rw [if_neg q]; unfold Sp.offAsk; rw [if_neg (fun z => by omega)]
  have h2 : 2 ≤ (ob u h).len := by omega
  intro x ex _
  rw [ex]
  refine ⟨fun hz2 => ?_, fun hz2 => no (by rw [if_pos hz2])⟩
  have hpr := len_isPr hl
  -- the names
  have hlist : ob u h = .pr (Ob.lft (ob u h)) (Ob.ofList (Ob.toList (Ob.rgt (ob u h)))) ∧ (ob u h).len = ((Ob.toList (Ob.rgt (ob u h))).length : Int) + 1 := by
    have hr := (len_rgt hpr).mp hl
    have e := Ob.ofList_toList _ hr
    have e2 := Ob.len_toList hr
    cases eo : ob u h with
    | var z => rw [eo] at hpr; cases hpr
    | op a b =>
      rw [eo] at e e2
      refine ⟨congrArg (Ob.pr a) e.symm, ?_⟩
      rw [← e2]
      show Ob.len (.pr a b) = Ob.len b + 1
      rw [eo] at hr
      have hr : Ob.len b ≠ -1 := hr
      rw [Ob.len_pr, if_neg hr]
  obtain ⟨eh, hlen⟩ := hlist
  have hask : (if u.1 135 ≠ 0 then (2 : Int) else Sp.offAsk (H.env m) (ob u h)) = offW (H.env m) (Ob.toList (Ob.rgt (ob u h))) := by
    rw [if_neg (not_not_intro hz2)]
    unfold Sp.offAsk offW
    by_cases c : (Ob.toList (Ob.rgt (ob u h))).all Ob.isName = true
    · rw [if_pos ⟨h2, c⟩, if_pos c]
    · rw [if_neg (fun z => c z.2), if_neg c]
  rw [hask] at hq
  generalize Ob.toList (Ob.rgt (ob u h)) = L at hq eh hlen
  intro _ w ew
  have gw : GZ f7N u w := by rw [ew]; exact GZ_eq (GZ.rf hT hU) (fun k hk => ⟨if_neg (by omega), rfl⟩) rfl (Fx_I (by decide))
  have wn : ∀ k, k ≠ 135 → w.1 k = u.1 k := fun k hk => by rw [ew]; exact if_neg hk
  have w135 : w.1 135 = 1 := by rw [ew]; rfl
  have w2 : w.2 = u.2 := by rw [ew]; rfl
  clear ew
  refine pw_turningOff_31_i (fun x1 x2 x3 v => x1 = h ∧ x2 = (ob u h).len ∧ GZ f7N u v ∧ (∀ k, k ≠ 135 → k ≠ 136 → v.1 k = u.1 k) ∧ v.1 135 = 1 ∧ (∀ k, k ≠ 53 → v.2.1 k = u.2.1 k) ∧ v.2.2 = u.2.2 ∧ ∃ i : Nat, x3 = (i : Int) + 1 ∧ i ≤ L.length ∧ v.1 136 = wrs (u.1 136) (offW (H.env m) (L.take i)) ∧ ∃ m', MuR v (m ++ m') ∧ (offW (H.env m) (L.take i) = 0 → m' = L.take i)) ?_ ⟨rfl, rfl, gw, fun k a _ => wn k a, w135, fun k _ => by rw [w2], by rw [w2], 0, rfl, Nat.zero_le _, by rw [wn 136 (by decide)]; rfl, [], by
    intro r r0 r1
    rw [wn 42 (by decide)] at r1
    rw [w2, List.append_nil]
    have eo : ∀ j, ob w j = ob u j := ob_same (by rw [w2]) (by rw [w2]) (by rw [w2]) (by rw [w2]) (by rw [w2])
    rw [eo]
    exact hM r r0 r1, fun _ => rfl⟩
  intro x1 x2 x3 v hI
  obtain ⟨e1, e2, gv, vn, v135, vr', vL, i, e3, hi, v136, m', hMv, hm'⟩ := hI
  rw [e1, e2, e3]
  have hTv := gv.1
  have hUv := gv.2.1
  have eov : ∀ j, ob v j = ob u j := ob_same (vr' 0 (by decide)) (vr' 1 (by decide)) (vr' 9 (by decide)) (vr' 10 (by decide)) vL
  have v8 : v.1 8 = u.1 8 := vn 8 (by decide) (by decide)
  unfold pw_turningOff_31b
  refine ⟨fun hc => ?_, fun hc => ?_⟩
  · have hiL : i = L.length := by omega
    rw [hiL, List.take_length] at v136 hm'
    exact hq v _ m' gv (vn 71 (by decide) (by decide)) (vn 61 (by decide) (by decide)) hMv rfl v136 (fun _ => by rw [v135]; decide) hm' vn vr'
  have hiL : i < L.length := by omega
  refine p_nthL hTv h0 (by omega) (by omega) (by rw [eov]; omega) (fun n n0 n1 en => ?_)
  rw [eov, eov, eh, show ((i : Int) + 1).toNat = i + 1 by omega, Ob.item_call, List.getD_eq_getElem?_getD, List.getElem?_eq_getElem hiL] at en
  have en : ob u n = L[i] := en
  have htk : L.take (i + 1) = L.take i ++ [L[i]] := by rw [List.take_add_one, List.getElem?_eq_getElem hiL]; rfl
  -- on
  have next : ∀ (q : iST) (b : Int) (m2 : List Ob), GZ f7N u q → (∀ k, k ≠ 135 → k ≠ 136 → q.1 k = u.1 k) → q.1 135 = 1 → (∀ k, k ≠ 53 → q.2.1 k = u.2.1 k) → q.2.2 = u.2.2 → b = (if (L[i]).isName = true then (if (Sp.Env.thmOf (H.env m) L[i]).isSome = true then (0 : Int) else 3) else 2) → q.1 136 = wrs (v.1 136) b → MuR q (m ++ m2) → (b = 0 → m2 = m' ++ [L[i]]) → (x1 = x1) → (fun x1 x2 x3 v => x1 = h ∧ x2 = (ob u h).len ∧ GZ f7N u v ∧ (∀ k, k ≠ 135 → k ≠ 136 → v.1 k = u.1 k) ∧ v.1 135 = 1 ∧ (∀ k, k ≠ 53 → v.2.1 k = u.2.1 k) ∧ v.2.2 = u.2.2 ∧ ∃ i : Nat, x3 = (i : Int) + 1 ∧ i ≤ L.length ∧ v.1 136 = wrs (u.1 136) (offW (H.env m) (L.take i)) ∧ ∃ m', MuR v (m ++ m') ∧ (offW (H.env m) (L.take i) = 0 → m' = L.take i)) h (ob u h).len ((i : Int) + 1 + 1) q := by
    intro q b m2 gq qn q135 qr qL hb q136 hMq hm2 _
    have rb : b = 0 ∨ b = 2 ∨ b = 3 := by
      rw [hb]
      split
      · split
        · exact Or.inl rfl
        · exact Or.inr (Or.inr rfl)
      · exact Or.inr (Or.inl rfl)
    have ew : offW (H.env m) (L.take (i + 1)) = if offW (H.env m) (L.take i) = 2 ∨ b = 2 then 2 else if offW (H.env m) (L.take i) = 3 ∨ b = 3 then 3 else 0 := by rw [htk, offW_snoc, ← hb]
    refine ⟨rfl, rfl, gq, qn, q135, qr, qL, i + 1, by omega, hiL, ?_, m2, hMq, fun hz => ?_⟩
    · rw [q136, v136, wrs_wrs _ _ _ (offW_range (H.env m) _) rb w0, ew]
    · rw [ew] at hz
      have r := offW_range (H.env m) (L.take i)
      have hb0 : b = 0 := by
        by_cases c1 : offW (H.env m) (L.take i) = 2 ∨ b = 2
        · rw [if_pos c1] at hz; cases hz
        · rw [if_neg c1] at hz
          by_cases c2 : offW (H.env m) (L.take i) = 3 ∨ b = 3
          · rw [if_pos c2] at hz; cases hz
          · omega
      have hw0 : offW (H.env m) (L.take i) = 0 := by
        by_cases c1 : offW (H.env m) (L.take i) = 2 ∨ b = 2
        · rw [if_pos c1] at hz; cases hz
        · rw [if_neg c1] at hz
          by_cases c2 : offW (H.env m) (L.take i) = 3 ∨ b = 3
          · rw [if_pos c2] at hz; cases hz
          · omega
      rw [hm2 hb0, hm' hw0, htk]
  refine p_isNewName hTv hUv n0 n1 (fun b hb => ?_)
  rw [eov, en] at hb
  have bad : ∀ a, (a = 2 ∨ a = 3) → a = (if (L[i]).isName = true then (if (Sp.Env.thmOf (H.env m) L[i]).isSome = true then (0 : Int) else 3) else 2) → pw_wrong a (fun u' => ovp ((i : Int) + 1 + 1) ((fun x1 x2 x3 v => x1 = h ∧ x2 = (ob u h).len ∧ GZ f7N u v ∧ (∀ k, k ≠ 135 → k ≠ 136 → v.1 k = u.1 k) ∧ v.1 135 = 1 ∧ (∀ k, k ≠ 53 → v.2.1 k = u.2.1 k) ∧ v.2.2 = u.2.2 ∧ ∃ i : Nat, x3 = (i : Int) + 1 ∧ i ≤ L.length ∧ v.1 136 = wrs (u.1 136) (offW (H.env m) (L.take i)) ∧ ∃ m', MuR v (m ++ m') ∧ (offW (H.env m) (L.take i) = 0 → m' = L.take i)) h (ob u h).len ((i : Int) + 1 + 1) u')) v := by
    intro a ha hae
    refine p_wrong hTv hUv ha (fun q gq q2 qn q136 _ => next q a m' (gv.tr gq) (fun k b c => by rw [qn k c]; exact vn k b c) (by rw [qn 135 (by decide)]; exact v135) (fun k hk => by rw [q2]; exact vr' k hk) (by rw [q2]; exact vL) hae q136 ?_ (fun z => by omega) rfl)
    intro r r0 r1
    rw [qn 42 (by decide)] at r1
    rw [q2]
    have eo : ∀ j, ob q j = ob v j := ob_same (by rw [q2]) (by rw [q2]) (by rw [q2]) (by rw [q2]) (by rw [q2])
    rw [eo]
    exact hMv r r0 r1
  refine ⟨fun hz3 => ?_, fun hz3 => bad 2 (Or.inl rfl) (by rw [if_neg (by rw [hb.f (Decidable.not_not.mp hz3)]; decide)])⟩
  have hname := hb.t hz3
  have v42 : v.1 42 = u.1 42 := vn 42 (by decide) (by decide)
  have hTkv : TOk v (H.env (m ++ m')) := TOk.mute hE.2.2.2 hT gv v42 (fun k a b => vr' k (by omega)) (fun r r0 r1 => by
    have := hMv r r0 (by omega)
    rw [vr' 43 (by decide), eov] at this
    exact this)
  refine p_theoremOf hTv hUv hTkv n0 n1 (fun hn => ?_) (fun d d0 d1 ed hds _ => ?_)
  · rw [eov, en] at hn
    have hn : Sp.Env.thmOf (H.env m) L[i] = none := hn
    exact ⟨fun z => absurd rfl z, fun _ => bad 3 (Or.inr rfl) (by rw [if_pos hname, hn]; rfl)⟩
  rw [eov, en] at hds
  have hds : Sp.Env.thmOf (H.env m) L[i] = some (thm1 v d) := hds
  refine ⟨fun _ => ?_, fun z => by have := Decidable.not_not.mp z; omega⟩
  refine p_theoremOf hTv hUv hTkv n0 n1 (fun hn => ?_) (fun d' d0' d1' ed' _ _ => ?_)
  · rw [eov, en] at hn
    have hn : Sp.Env.thmOf (H.env m) L[i] = none := hn
    rw [hds] at hn; cases hn
  intro _ _ _ q eq _
  have gq : GZ f7N v q := by rw [eq]; exact GZ_eq (GZ.rf hTv hUv) (fun k hk => ⟨rfl, if_neg (by omega)⟩) rfl (Fx_A (by decide))
  have q53 : ∀ r, q.2.1 53 r = if r = d' then 1 else v.2.1 53 r := fun r => by rw [eq]; rfl
  have qn : q.1 = v.1 := by rw [eq]; rfl
  have qr : ∀ k, k ≠ 53 → q.2.1 k = v.2.1 k := fun k hk => by rw [eq]; exact if_neg hk
  have qL : q.2.2 = v.2.2 := by rw [eq]; rfl
  clear eq
  refine next q 0 (m' ++ [L[i]]) (gv.tr gq) (fun k b c => by rw [qn]; exact vn k b c) (by rw [qn]; exact v135) (fun k hk => by rw [qr k hk]; exact vr' k hk) (qL.trans vL) (by rw [if_pos hname, hds]; rfl) (by rw [qn]; rfl) ?_ (fun _ => rfl) rfl
  intro r r0 r1
  rw [qn] at r1
  have eoq : ∀ j, ob q j = ob u j := fun j => (ob_same (qr 0 (by decide)) (qr 1 (by decide)) (qr 9 (by decide)) (qr 10 (by decide)) qL j).trans (eov j)
  have h43 : q.2.1 43 = u.2.1 43 := by rw [qr 43 (by decide), vr' 43 (by decide)]
  have nd' : ob u (u.2.1 43 d') = L[i] := by
    rw [vr' 43 (by decide)] at ed'
    rw [ed']; exact en
  rw [q53, h43, eoq, ← List.append_assoc, Ob.has_iff, List.mem_append]
  by_cases c : r = d'
  · rw [if_pos c, c, nd']
    exact ⟨fun _ => Or.inr (List.mem_singleton.mpr rfl), fun _ => by decide⟩
  · rw [if_neg c]
    have := hMv r r0 r1
    rw [vr' 43 (by decide), eov, Ob.has_iff] at this
    rw [this]
    refine ⟨Or.inl, fun z => z.resolve_right (fun q' => c (hnd r d' r0 (by omega) d0' (by omega) ?_))⟩
    rw [List.mem_singleton.mp q', nd']
