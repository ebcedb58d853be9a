-- deps: 539
/-! the reference: (induct T (f V ..) PROOF ..) -/
theorem toNat_lt7 [DecidableEq Ob] {a b : Int} (h1 : 0 ≤ a) (h2 : a < b) : a.toNat < b.toNat := by omega
theorem p_inducts [DecidableEq Ob] {o f L : Int} {Q : Int → iST → Prop} {u : iST} {H : Sp.Hs} {R : EStateM.Result Unit Sp.Wk Unit} {cs : List (List Ob)} {s0 : Sp.Wk} (hX : HX u H []) (h71 : 0 ≤ u.1 71) (h61 : u.1 61 = 0) (hS : StL u s0) (o0 : 0 ≤ o) (o1 : o < u.1 8) (h3 : 3 ≤ (ob u o).len) (hask : Sp.indAsk (H.env []) (Ob.item (ob u o) 2) = 0) (nL : Nd u (H.env []) L)
    (hcs : ∀ (i : Nat) (h : i < cs.length), ClzOk u (H.env []) (f + (i : Int)) ∧ clz u (f + (i : Int)) = cs[i])
    (hn : ∀ D, Sp.Env.dfn (H.env []) (Ob.lft (Ob.item (ob u o) 2)) = some D → cs.length = (Sp.paths D.body).length ∧ R = Sp.indParts D (Ob.toList (Ob.rgt (Ob.item (ob u o) 2))) (ob u L) (Sp.paths D.body) cs s0)
    (hq0 : ∀ v, GZ f7O u v → v.1 71 = u.1 71 → v.1 61 = 0 → (∃ s, StL v s ∧ R = .error () s) → Q 0 v)
    (hq1 : ∀ v, GZ f7O u v → v.1 71 = u.1 71 → DfOk v (H.env []) → ((v.1 61 = 0 ∧ dfl v = [ob u L] ∧ ∃ s, StL v s ∧ R = .ok () s) ∨ (v.1 61 ≠ 0 ∧ ∃ s, StL v s ∧ R = .error () s)) → Q 1 v) : pw_inducts o f L Q u := by
  have hT := hX.1
  have hU := hX.2.1
  unfold pw_inducts
  refine p_nthL hT o0 o1 (by decide) (by omega) (fun c c0 c1 ec => ?_)
  have ec : ob u c = Ob.item (ob u o) 2 := ec
  rw [← ec] at hask hn
  obtain ⟨⟨len1, nm, hvars⟩, D, hdn, hmeas, hpl⟩ := indAsk_0.mp hask
  obtain ⟨cl0, cl1, cr0, cr1, ecl, ecr, _⟩ := ob_lft hT c0 c1 (len_isPr len1)
  intro _ _ y1 ey1 _
  rw [ey1]
  rw [ecl] at hdn hn
  rw [ecr] at hvars hpl hn
  refine p_definition (E := H.env []) hT hU hX.2.2.1.1 cl0 (by omega) (fun z => by rw [hdn] at z; cases z) (fun d d0 d1 e36 hdf => ?_)
  have hDd : dfn1 u d = D := by rw [hdn] at hdf; exact (Option.some.inj hdf).symm
  obtain ⟨hnl, hR⟩ := hn D hdn
  rw [← hDd] at hdn hpl hnl hR
  have hD := hX.2.2.1.1
  have hD1 := hD.2.2 d d0 d1
  have hmem : dfn1 u d ∈ H.1 := (dfn_mem hdn).1
  obtain ⟨_, _, ⟨wB, zB, vB⟩, _⟩ := (HOk.wf hX.2.2.2.2.1).1 _ hmem
  have hfst : Sp.Env.dfn (H.env []) (ob u (u.2.1 36 d)) = some (dfn1 u d) := by rw [e36]; exact hdn
  have wB : Ob.wt (Sp.arOf (H.env [])) (ob u (u.2.1 39 d)) := wB
  have zB : (ob u (u.2.1 39 d)).sz ≤ 120 := zB
  have plen0 : ((dfn1 u d).params.length : Int) = u.2.1 37 d := by
    have := hD1.2.1.1
    show ((prm u d).length : Int) = _
    unfold prm
    rw [List.length_map, List.length_range]; omega
  have hlen : (ob u (u.2.1 1 c)).len ≠ -1 := by omega
  have evs := Ob.ofList_toList _ hlen
  have hvl : ((Ob.toList (ob u (u.2.1 1 c))).length : Int) = u.2.1 37 d := by rw [← Ob.len_toList hlen]; omega
  generalize hvs : Ob.toList (ob u (u.2.1 1 c)) = vs at hvars evs hvl hR
  have hv : ∀ x, x ∈ vs → x.isVar = true := fun x hx => by
    unfold Sp.areVars at hvars
    rw [Bool.and_eq_true, List.all_eq_true] at hvars
    exact hvars.1 x hx
  intro _ _ y2 ey2 _
  rw [ey2]
  have nB : Nd u (H.env []) (u.2.1 39 d) := ⟨hD1.2.2.1.1, hD1.2.2.1.2.1, hD1.2.2.1.2.2, wB⟩
  refine p_pathsOf hT hU nB zB h71 h61 (fun v gv v71 v61 pv ev => ?_)
  have guv : GZ f7O u v := gv.mono f7H_O
  have n126 := pv.1
  have eb : (dfn1 u d).body = ob u (u.2.1 39 d) := rfl
  rw [eb] at hnl hR
  have plen : (Sp.paths (ob u (u.2.1 39 d))).length = (v.1 126).toNat := by
    have := congrArg List.length ev
    unfold pthL pth at this
    simp at this
    omega
  -- the end
  have fin : ∀ z, GZ f7O u z → z.1 71 = u.1 71 → ((z.1 61 = 0 ∧ ∃ s, StL z s ∧ R = .ok () s) ∨ (z.1 61 ≠ 0 ∧ ∃ s, StL z s ∧ R = .error () s)) → pw_inducts_177 Q L z := by
    intro z gz z71 hz
    unfold pw_inducts_177
    intro w ew
    have gw : GZ f7D z w := by rw [ew]; exact GZ_eq (GZ.rf gz.1 gz.2.1) (fun k hk => ⟨if_neg (by omega), rfl⟩) rfl (Fx_I (by decide))
    have wn : ∀ k, k ≠ 122 → w.1 k = z.1 k := fun k hk => by rw [ew]; exact if_neg hk
    have w122 : w.1 122 = 0 := by rw [ew]; rfl
    clear ew
    have guw := gz.tr (gw.mono (fun k hk => f7D_I k (f7I_O k hk)))
    obtain ⟨nLw, eLw⟩ := nL.mono hT guw
    refine p_put gw.1 gw.2.1 ⟨by omega, fun i i0 i1 => by omega⟩ nLw (fun t gt dt lt _ => ?_)
    have gwt : GZ f7D z t := gw.tr gt
    have gut := gz.tr (gwt.mono (fun k hk => f7D_I k (f7I_O k hk)))
    have e0 : dfl w = [] := by unfold dfl; rw [w122]; rfl
    rw [e0, eLw] at lt
    have t61 : t.1 61 = z.1 61 := (gwt.2.2.2.2 61 (by decide)).1
    refine hq1 t gut (by rw [(gwt.2.2.2.2 71 (by decide)).1]; exact z71) dt ?_
    rw [t61]
    rcases hz with ⟨a, s, b, e⟩ | ⟨a, s, b, e⟩
    · exact Or.inl ⟨a, lt, s, b.gz gwt (by decide) (by decide) rfl, e⟩
    · exact Or.inr ⟨a, s, b.gz gwt (by decide) (by decide) rfl, e⟩
  refine pw_inducts_35_i (fun x2 x3 x4 x5 x6 z => x2 = f ∧ x3 = L ∧ x4 = c ∧ x5 = d ∧ ∃ i : Nat, x6 = (i : Int) ∧ i ≤ cs.length ∧ GZ f7O u z ∧ z.1 71 = u.1 71 ∧ z.1 126 = v.1 126 ∧ PthOk z (H.env []) ∧ pthL z = pth [] (ob u (u.2.1 39 d)) ∧ ((z.1 61 = 0 ∧ ∃ s, StL z s ∧ R = Sp.indParts (dfn1 u d) vs (ob u L) ((Sp.paths (ob u (u.2.1 39 d))).drop i) (cs.drop i) s) ∨ (z.1 61 ≠ 0 ∧ ∃ s, StL z s ∧ R = .error () s))) ?_ ⟨rfl, rfl, rfl, rfl, 0, rfl, Nat.zero_le _, guv, v71, rfl, pv, ev, Or.inl ⟨v61, s0, hS.gz gv (by decide) (by decide) rfl, hR⟩⟩
  intro x2 x3 x4 x5 x6 z hI
  obtain ⟨f1, f2, f3, f4, i, f5, hi', gz, z71, z126, pz, ez, hz⟩ := hI
  rw [f1, f2, f3, f4, f5]
  have hTz := gz.1
  unfold pw_inducts_35b
  intro y3 ey3 _
  rw [z126] at ey3
  rw [ey3]
  refine ⟨fun hc => ?_, fun hc => ?_⟩
  · refine fin z gz z71 (hz.imp (fun ⟨a, s, b, e⟩ => ⟨a, s, b, ?_⟩) id)
    rw [e, List.drop_eq_nil_of_le (by omega), List.drop_eq_nil_of_le (by omega)]
    rfl
  intro y4 ey4 _
  rw [ey4]
  refine ⟨fun hne => fin z gz z71 (Or.inr (hz.resolve_left (fun q => hne q.1))), fun hne => ?_⟩
  have z61 := Decidable.not_not.mp hne
  obtain ⟨_, s, hs, hR⟩ := hz.resolve_right (fun q => q.1 z61)
  have hip : i < (Sp.paths (ob u (u.2.1 39 d))).length := by omega
  have hic : i < cs.length := by omega
  intro p ew
  have gp : GZ f7I z p := by rw [ew]; exact GZ_eq (GZ.rf gz.1 gz.2.1) (fun k hk => ⟨if_neg (by omega), rfl⟩) rfl (Fx_I (by decide))
  have pn : ∀ k, k ≠ 122 → p.1 k = z.1 k := fun k hk => by rw [ew]; exact if_neg hk
  have p122 : p.1 122 = 0 := by rw [ew]; rfl
  have p2 : p.2 = z.2 := by rw [ew]; rfl
  clear ew
  have gup := gz.tr (gp.mono f7I_O)
  have hXp := hX.keep (gup.mono f7O_K)
  have hlp := gup.le
  intro _ _ y5 ey5 _
  have hy5 : y5 = u.2.1 1 c := by rw [ey5, (gup.2.2.1.2.1 c c0 c1).2.1]
  rw [hy5]
  obtain ⟨nLp, eLp⟩ := nL.mono hT gup
  have d1p := (hD1.mono hT gup (DSm.of gup.2.2.2.2 (by decide) (by decide) (by decide) (by decide) (by decide) (by decide) (by decide))).2
  have kp : ∀ k, 123 ≤ k → k ≤ 126 → f7I k = false := fun k a b => by unfold f7I f7M fI; simp only [Bool.or_eq_false_iff, decide_eq_false_iff_not]; omega
  obtain ⟨pp, epp⟩ := pz.mono gz.1 gp ((gp.2.2.2.2 126 (kp _ (by decide) (by decide))).1) ((gp.2.2.2.2 123 (kp _ (by decide) (by decide))).2) ((gp.2.2.2.2 124 (kp _ (by decide) (by decide))).2) ((gp.2.2.2.2 125 (kp _ (by decide) (by decide))).2)
  have p126 : p.1 126 = v.1 126 := by rw [(gp.2.2.2.2 126 (kp _ (by decide) (by decide))).1]; exact z126
  have hent : ent p 123 124 125 (i : Int) = ((Sp.paths (ob u (u.2.1 39 d)))[i].1.map rulQ, (Sp.paths (ob u (u.2.1 39 d)))[i].2) := by
    have e1 : (pthL p)[i]? = some (ent p 123 124 125 (i : Int)) := by
      unfold pthL
      rw [List.getElem?_map, List.getElem?_range (by omega)]; rfl
    rw [epp, ez] at e1
    unfold pth at e1
    rw [List.getElem?_map, List.getElem?_eq_getElem hip] at e1
    have e1 := Option.some.inj e1
    rw [← e1]
    rfl
  have pmem := List.getElem_mem hip
  have pw := paths_wt (E := H.env []) (SizeOf.sizeOf (ob u (u.2.1 39 d)) + 1) _ (Nat.lt_succ_self _) wB _ pmem
  have psz := paths_sz (E := H.env []) (SizeOf.sizeOf (ob u (u.2.1 39 d)) + 1) _ (Nat.lt_succ_self _) wB _ pmem
  have e0 : dfl p = [] := by unfold dfl; rw [p122]; rfl
  refine p_inductionRow (u0 := p) (u := p) (E := H.env []) (vs := vs) (pt := (Sp.paths (ob u (u.2.1 39 d)))[i]) (R := Sp.indPre (dfn1 u d) vs (ob u L) (Sp.paths (ob u (u.2.1 39 d)))[i] [] s) (K := fun l => Sp.ret l) gp.1 hXp.2.2.1 (by rw [pn 71 (by decide), z71]; exact h71) d0 (by rw [(gup.2.2.2.2 35 (by decide)).1]; exact d1) cr0 (by omega) (by rw [gup.ob hT cr0 (by omega)]; exact evs.symm) (by rw [(gup.2.2.2.2 37 (by decide)).2]; exact hvl) hv nLp ?_ (pp.2 (i : Int) (by omega) (by omega)) hent (fun q hq' => ⟨pw.1 q hq', by have := psz.1 q hq'; omega⟩) ⟨GZ.rf gp.1 gp.2.1, rfl, ⟨by omega, fun j j0 j1 => by omega⟩, Or.inl ⟨by rw [pn 61 (by decide)]; exact z61, s, hs.gz gp (by decide) (by decide) rfl, ?_⟩⟩ (fun x gx hx => ?_)
  · have e1 : ob p (p.2.1 36 d) = ob u (u.2.1 36 d) := congrArg (fun D : Sp.Dfn => D.1) d1p
    rw [e1, d1p]; exact hfst
  · rw [d1p, eLp, e0]
    exact (congrFun (bd_ret' (Sp.indPre (dfn1 u d) vs (ob u L) (Sp.paths (ob u (u.2.1 39 d)))[i] [])) s).symm
  obtain ⟨_, x71, dx, horx⟩ := hx
  have gux := gup.tr (gx.mono f7I_O)
  have x71' : x.1 71 = u.1 71 := by rw [x71, pn 71 (by decide)]; exact z71
  obtain ⟨px, epx⟩ := pp.mono gp.1 gx ((gx.2.2.2.2 126 (kp _ (by decide) (by decide))).1) ((gx.2.2.2.2 123 (kp _ (by decide) (by decide))).2) ((gx.2.2.2.2 124 (kp _ (by decide) (by decide))).2) ((gx.2.2.2.2 125 (kp _ (by decide) (by decide))).2)
  refine p_bounded gx.1 gx.2.1 dx (fun b gb bn b2 b61 => ?_)
  have kM : ∀ k, 121 ≤ k → k ≤ 126 → f7M k = false := fun k a b => by unfold f7M fI; simp only [Bool.or_eq_false_iff, decide_eq_false_iff_not]; omega
  have gub := gux.tr (gb.1.mono f7M_O)
  obtain ⟨pb, epb⟩ := px.mono gx.1 gb.1 (bn 126 (by decide)) (by rw [b2]) (by rw [b2]) (by rw [b2])
  have b126 : b.1 126 = v.1 126 := by rw [bn 126 (by decide), (gx.2.2.2.2 126 (kp _ (by decide) (by decide))).1]; exact p126
  have ebb : pthL b = pth [] (ob u (u.2.1 39 d)) := by rw [epb, epx, epp]; exact ez
  obtain ⟨db, lb⟩ := dx.mono gx.1 gb.1 (by decide) (by decide)
  have b71 : b.1 71 = u.1 71 := (bn 71 (by decide)).trans x71'
  rw [List.drop_eq_getElem_cons hip, List.drop_eq_getElem_cons hic] at hR
  have hR : R = Sp.bd (Sp.indRow (dfn1 u d) vs (ob u L) (Sp.paths (ob u (u.2.1 39 d)))[i] []) (fun w => if cs[i].all (Ob.has w) then Sp.indParts (dfn1 u d) vs (ob u L) ((Sp.paths (ob u (u.2.1 39 d))).drop (i + 1)) (cs.drop (i + 1)) else Sp.fail) s := hR
  rw [indRow_pre] at hR
  -- how the row came out
  have hbR : (b.1 61 = 0 ∧ ∃ s', StL b s' ∧ R = (if cs[i].all (Ob.has (dfl b)) then Sp.indParts (dfn1 u d) vs (ob u L) ((Sp.paths (ob u (u.2.1 39 d))).drop (i + 1)) (cs.drop (i + 1)) else Sp.fail) s') ∨ (b.1 61 ≠ 0 ∧ ∃ s', StL b s' ∧ R = .error () s') := by
    rcases horx with ⟨x61, s', hs', e⟩ | ⟨x61, s', hs', e⟩
    · have e : Sp.indPre (dfn1 u d) vs (ob u L) (Sp.paths (ob u (u.2.1 39 d)))[i] [] s = .ok (dfl x) s' := e
      rw [if_neg (not_not_intro x61)] at b61
      rw [bd_assoc', bind_ok e] at hR
      have Sb : StL b s' := hs'.gz gb.1 (by decide) (by decide) rfl
      cases hb : Sp.bnd (dfl x) with
      | true =>
        rw [if_pos hb] at b61
        refine Or.inl ⟨b61, s', Sb, ?_⟩
        rw [hR, lb]
        unfold Sp.bounded
        rw [if_pos hb]; rfl
      | false =>
        rw [if_neg (by rw [hb]; decide)] at b61
        refine Or.inr ⟨by omega, s', Sb, ?_⟩
        rw [hR]
        unfold Sp.bounded
        rw [if_neg (by rw [hb]; decide)]; rfl
    · rw [if_pos x61] at b61
      refine Or.inr ⟨by omega, s', hs'.gz gb.1 (by decide) (by decide) rfl, ?_⟩
      rw [bd_assoc'] at hR
      rw [hR]; exact bind_err e
  obtain ⟨ci, eci⟩ := hcs i hic
  obtain ⟨cb, ecb⟩ := ci.fx hT gub (by decide) (by decide)
  rw [eci] at ecb
  have cb0 := cb.1
  have cbl := clz_len b (f + (i : Int))
  have next : ((b.1 61 = 0 ∧ ∃ s', StL b s' ∧ R = Sp.indParts (dfn1 u d) vs (ob u L) ((Sp.paths (ob u (u.2.1 39 d))).drop (i + 1)) (cs.drop (i + 1)) s') ∨ (b.1 61 ≠ 0 ∧ ∃ s', StL b s' ∧ R = .error () s')) → (f = f ∧ L = L ∧ c = c ∧ d = d ∧ ∃ i' : Nat, (i : Int) + 1 = (i' : Int) ∧ i' ≤ cs.length ∧ GZ f7O u b ∧ b.1 71 = u.1 71 ∧ b.1 126 = v.1 126 ∧ PthOk b (H.env []) ∧ pthL b = pth [] (ob u (u.2.1 39 d)) ∧ ((b.1 61 = 0 ∧ ∃ s, StL b s ∧ R = Sp.indParts (dfn1 u d) vs (ob u L) ((Sp.paths (ob u (u.2.1 39 d))).drop i') (cs.drop i') s) ∨ (b.1 61 ≠ 0 ∧ ∃ s, StL b s ∧ R = .error () s))) := fun h => ⟨rfl, rfl, rfl, rfl, i + 1, by omega, hic, gub, b71, b126, pb, ebb, h⟩
  refine pw_inducts_79_i (fun x2 x3 x4 x5 x6 x7 z => z = b ∧ x2 = f ∧ x3 = L ∧ x4 = c ∧ x5 = d ∧ x6 = (i : Int) ∧ 0 ≤ x7 ∧ ∀ j, 0 ≤ j → j < x7 → j < b.2.1 146 (f + (i : Int)) → Ob.has (dfl b) (ob b (b.2.1 145 (30 * (f + (i : Int)) + j))) = true) ?_ ⟨rfl, rfl, rfl, rfl, rfl, rfl, by decide, fun j j0 j1 => by omega⟩
  intro x2 x3 x4 x5 x6 x7 zz hI
  obtain ⟨e1, e2, e3, e4, e5, e6, x70, hall⟩ := hI
  rw [e1, e2, e3, e4, e5, e6]
  unfold pw_inducts_79b
  intro _ _ _ y6 ey6 _
  rw [ey6]
  refine ⟨fun hc _ => next ?_, fun hc => ?_⟩
  · rcases hbR with ⟨a, s', h1, h2⟩ | h
    · refine Or.inl ⟨a, s', h1, ?_⟩
      rw [if_pos] at h2
      · exact h2
      · rw [List.all_eq_true]
        intro y hy
        rw [← ecb] at hy
        obtain ⟨j, j1, j2⟩ := ls_mem.mp hy
        rw [← j2]
        exact hall (j : Int) (by omega) (by omega) (by omega)
    · exact Or.inr h
  intro y7 ey7 _
  rw [ey7]
  refine ⟨fun hne _ => next (Or.inr (hbR.resolve_left (fun q => hne q.1))), fun hne => ?_⟩
  have b610 := Decidable.not_not.mp hne
  obtain ⟨_, s', hs', hRb⟩ := hbR.resolve_right (fun q => q.1 b610)
  have nj := cb.2.2 x7 x70 (by omega)
  have d0' := db.1
  refine pw_inducts_106_i (fun y2 y3 y4 y5 y6 y7 y8 y9 z => z = b ∧ y2 = f ∧ y3 = L ∧ y4 = c ∧ y5 = d ∧ y6 = (i : Int) ∧ y7 = x7 ∧ 0 ≤ y9 ∧ (y8 ≠ 0 → Ob.has (dfl b) (ob b (b.2.1 145 (30 * (f + (i : Int)) + x7))) = true) ∧ (y8 = 0 → ∀ j, 0 ≤ j → j < y9 → j < b.1 122 → ob b (b.2.1 121 j) ≠ ob b (b.2.1 145 (30 * (f + (i : Int)) + x7)))) ?_ ⟨rfl, rfl, rfl, rfl, rfl, rfl, rfl, by decide, fun q => absurd rfl q, fun _ j j0 j1 => by omega⟩
  intro y2 y3 y4 y5 y6 y7 y8 y9 zz' hI
  obtain ⟨g1, g2, g3, g4, g5, g6, g7, y90, hyes, hno⟩ := hI
  rw [g1, g2, g3, g4, g5, g6, g7]
  unfold pw_inducts_106b pw_inducts_145
  intro y10 ey10 _
  rw [ey10]
  refine ⟨fun hend => ⟨fun h8 _ => ⟨rfl, rfl, rfl, rfl, rfl, rfl, by omega, fun j j0 j1 j2 => ?_⟩, fun h8 _ => ?_⟩, fun hmore => ⟨fun h8 _ => ⟨rfl, rfl, rfl, rfl, rfl, rfl, rfl, by omega, fun _ => hyes h8, fun q => absurd q (by decide)⟩, fun h8 => ?_⟩⟩
  · by_cases cj : j = x7
    · rw [cj]; exact hyes h8
    · exact hall j j0 (by omega) j2
  · refine hq0 b gub b71 b610 ⟨s', hs', ?_⟩
    rw [hRb, if_neg]
    · rfl
    · intro hA
      rw [List.all_eq_true] at hA
      have hm : ob b (b.2.1 145 (30 * (f + (i : Int)) + x7)) ∈ cs[i] := by
        rw [← ecb]
        refine ls_mem.mpr ⟨x7.toNat, toNat_lt7 x70 (Int.not_le.mp hc), ?_⟩
        rw [Int.toNat_of_nonneg x70]
      have := Ob.has_iff.mp (hA _ hm)
      unfold dfl at this
      obtain ⟨j, j1, j2⟩ := ls_mem.mp this
      rw [Int.zero_add] at j2
      exact hno (Decidable.not_not.mp h8) (j : Int) (by omega) (by omega) (by omega) j2
  · intro _ _ y11 ey11 _ _ _ _ _ _ y12 ey12 _
    rw [ey11, ey12]
    have ndj := db.2 y9 y90 (by omega)
    have inj := gub.1.inj gub.2.1 ndj.1 ndj.2.1 nj.1 nj.2.1
    refine ⟨fun hz' _ => ⟨rfl, rfl, rfl, rfl, rfl, rfl, rfl, by omega, fun q => absurd rfl q, fun _ j j0 j1 j2 => ?_⟩, fun hz' _ => ⟨rfl, rfl, rfl, rfl, rfl, rfl, rfl, by omega, fun _ => ?_, fun q => absurd q (by decide)⟩⟩
    · by_cases cj : j = y9
      · rw [cj]; exact fun q => hz' (inj.mp q)
      · exact hno (Decidable.not_not.mp h8) j j0 (by omega) j2
    · refine Ob.has_iff.mpr ?_
      unfold dfl
      refine ls_mem.mpr ⟨y9.toNat, toNat_lt7 y90 (Int.not_le.mp hmore), ?_⟩
      rw [Int.toNat_of_nonneg y90, Int.zero_add]
      exact inj.mpr (Decidable.not_not.mp hz')
