-- deps: 537
/-! the reference: (inst PROOF (V T) ..) -/
theorem p_instanced [DecidableEq Ob] {o c : Int} {Q : Int → iST → Prop} {u0 u : iST} {E : Sp.Env} {ps : List (Ob × Ob)} {R : EStateM.Result Unit Sp.Wk (List Ob)} {K : List Ob → Sp.M (List Ob)} (hE : EnvS u E) (h71 : 0 ≤ u.1 71) (o0 : 0 ≤ o) (o1 : o < u.1 8) (pr1 : (ob u o).isPr = true) (pr2 : (Ob.rgt (ob u o)).isPr = true) (hps : Sp.pairsOf E (Ob.rgt (Ob.rgt (ob u o))) = some ps) (hC : ClzOk u E c)
    (hL : LyD u0 u E R (fun l => Sp.bd (Sp.fills (Sp.fill (Ob.lkD ps)) (clz u c) l) K)) (hq : ∀ v, GZ f7I u v → LyD u0 v E R K → Q 1 v) : pw_instanced o c Q u := by
  obtain ⟨g0, u71, hDf, hst⟩ := hL
  have hT := g0.1
  have hU := g0.2.1
  obtain ⟨hD, h57, hW, hTk⟩ := hE
  have c0 := hC.1
  have cl := clz_len u c
  obtain ⟨_, _, r0, r1, _, er1, _⟩ := ob_lft hT o0 o1 pr1
  rw [er1] at pr2 hps
  obtain ⟨_, _, rr0, rr1, _, er2, _⟩ := ob_lft hT r0 (by omega) pr2
  rw [er2] at hps
  have hlen : (ob u (u.2.1 1 (u.2.1 1 o))).len ≠ -1 := by
    intro z
    unfold Sp.pairsOf at hps
    rw [if_pos z] at hps; cases hps
  have hgo : Sp.pairsGo E (Ob.toList (ob u (u.2.1 1 (u.2.1 1 o)))) [] = some ps := by
    unfold Sp.pairsOf at hps
    rw [if_neg hlen] at hps; exact hps
  have eL := Ob.ofList_toList _ hlen
  generalize Ob.toList (ob u (u.2.1 1 (u.2.1 1 o))) = L at hgo eL
  generalize hCL : clz u c = CL at hst cl
  have hCLg : ∀ (i : Nat) (h : i < CL.length), CL[i] = ob u (u.2.1 145 (30 * c + (i : Int))) := by
    intro i h
    have := clz_get (u := u) (c := c) (i := i) (by omega)
    rw [hCL, List.getElem?_eq_getElem h] at this
    exact Option.some.inj this
  unfold pw_instanced
  refine pw_instanced_2_i (fun x1 x2 x3 v => x1 = o ∧ x2 = c ∧ ∃ i : Nat, x3 = (i : Int) ∧ i ≤ CL.length ∧ GZ f7I u v ∧ v.1 71 = u.1 71 ∧ DfOk v E ∧ ((v.1 61 = 0 ∧ ∃ s, StL v s ∧ R = Sp.bd (Sp.fills (Sp.fill (Ob.lkD ps)) (CL.drop i) (dfl v)) K s) ∨ (v.1 61 ≠ 0 ∧ ∃ s, StL v s ∧ R = .error () s))) ?_ ⟨rfl, rfl, 0, rfl, Nat.zero_le _, GZ.rf hT hU, rfl, hDf, hst⟩
  intro x1 x2 x3 v hI
  obtain ⟨e1, e2, i, e3, hi, gv, v71, dv, hv⟩ := hI
  rw [e1, e2, e3]
  have hTv := gv.1
  have hUv := gv.2.1
  have qm : ∀ k, (12 ≤ k ∧ k ≤ 59) ∨ (141 ≤ k ∧ k ≤ 148) → f7I k = false := fun k hk => by unfold f7I f7M fI; simp only [Bool.or_eq_false_iff, decide_eq_false_iff_not]; omega
  have q : ∀ k, (12 ≤ k ∧ k ≤ 59) ∨ (141 ≤ k ∧ k ≤ 148) → v.1 k = u.1 k ∧ v.2.1 k = u.2.1 k := fun k hk => gv.2.2.2.2 k (qm k hk)
  unfold pw_instanced_2b
  intro _ _ y ey _
  rw [(q 146 (by omega)).2] at ey
  rw [ey]
  refine ⟨fun hc _ => hq v gv ⟨g0.tr gv, v71.trans u71, dv, (hv.imp (fun ⟨a, s, b, c'⟩ => ⟨a, s, b, by rw [c', List.drop_eq_nil_of_le (by omega)]; rfl⟩) id)⟩, fun hc => ?_⟩
  have hil : i < CL.length := by omega
  have ndi := hC.2.2 (i : Int) (by omega) (by omega)
  intro w ew
  have gw : GZ f7I v w := by rw [ew]; exact GZ_eq (GZ.rf hTv hUv) (fun k hk => ⟨if_neg (by omega), rfl⟩) rfl (Fx_I (by decide))
  have wn : ∀ k, k ≠ 74 → w.1 k = v.1 k := fun k hk => by rw [ew]; exact if_neg hk
  have w74 : w.1 74 = 0 := by rw [ew]; rfl
  have w2 : w.2 = v.2 := by rw [ew]; rfl
  clear ew
  intro _ _ y2 ey2 _ _ _ y3 ey3 _
  have gvw := gv.tr gw
  have hy2 : y2 = u.2.1 1 o := by rw [ey2, (gvw.2.2.1.2.1 o o0 o1).2.1]
  rw [hy2] at ey3
  have hy3 : y3 = u.2.1 1 (u.2.1 1 o) := by rw [ey3, (gvw.2.2.1.2.1 _ r0 (by omega)).2.1]
  rw [hy3]
  have e138 : ob w (u.2.1 1 (u.2.1 1 o)) = Ob.ofList L := by rw [gvw.ob hT rr0 (by omega)]; exact eL.symm
  have hlw := gvw.le
  refine pw_instanced_30_i (fun y1 y2 y3 x2 z => y1 = o ∧ y2 = c ∧ y3 = (i : Int) ∧ 0 ≤ x2 ∧ x2 < z.1 8 ∧ GZ f7I v z ∧ z.1 71 = u.1 71 ∧ z.1 61 = v.1 61 ∧ z.1 60 = v.1 60 ∧ z.1 122 = v.1 122 ∧ z.2.1 121 = v.2.1 121 ∧ 0 ≤ z.1 74 ∧ PrW z E ∧ ∃ j : Nat, j ≤ L.length ∧ ob z x2 = Ob.ofList (L.drop j) ∧ Sp.pairsGo E (L.drop j) (prs z) = some ps) ?_ ⟨rfl, rfl, rfl, rr0, by omega, gw, by rw [wn 71 (by decide)]; exact v71, wn 61 (by decide), wn 60 (by decide), wn 122 (by decide), by rw [w2], by omega, ⟨fun j j0 j1 => by omega, fun q hq' => by unfold prs at hq'; rw [w74] at hq'; cases hq'⟩, 0, Nat.zero_le _, e138, by unfold prs; rw [w74]; exact hgo⟩
  intro y1 y2 y3 x2 z hI
  obtain ⟨f1, f2, f3, x0, x1', gz, z71, z61, z60, z122, z121, z74, pz, j, hj, ej, hgj⟩ := hI
  rw [f1, f2, f3]
  have hTz := gz.1
  have hUz := gz.2.1
  have guz := gv.tr gz
  have qz : ∀ k, (12 ≤ k ∧ k ≤ 59) ∨ (141 ≤ k ∧ k ≤ 148) → z.1 k = u.1 k ∧ z.2.1 k = u.2.1 k := fun k hk => guz.2.2.2.2 k (qm k hk)
  have hle := guz.le
  unfold pw_instanced_30b
  rcases list_step hTz hUz x0 x1' ej with ⟨zz, hnil⟩ | ⟨zz, p, rest, hcons, cc0, cc1, ec, d0, d1, ed⟩
  · refine ⟨fun _ => ?_, fun z' => absurd zz z'⟩
    rw [hnil] at hgj
    have hgj : some (prs z) = some ps := hgj
    have hprs := Option.some.inj hgj
    intro _ _ _ _ y4 ey4 _
    rw [(qz 145 (by omega)).2] at ey4
    obtain ⟨nf, ef⟩ := ndi.mono hT guz
    rw [ey4]
    have dz : DfOk z E ∧ dfl z = dfl v := by
      refine ⟨⟨by rw [z122]; exact dv.1, fun i' i0 i1 => ?_⟩, ?_⟩
      · rw [z122] at i1
        rw [z121]; exact ((dv.2 i' i0 i1).mono hTv gz).1
      · unfold dfl
        rw [z122, z121]
        refine ls_congr (fun i' hi' => ?_)
        have := dv.1
        exact ((dv.2 _ (by omega) (by omega)).mono hTv gz).2
    have St : ∀ (t3 : iST) (s s' : Sp.Wk), GZ f7I z t3 → StL v s → s'.1 = s.1 → StL t3 s' := fun t3 s s' gzt hs e => by
      unfold StL at hs ⊢
      rw [(gzt.2.2.2.2 60 (by decide)).1, (gzt.2.2.2.2 59 (by decide)).1, z60, (gz.2.2.2.2 59 (by decide)).1, e]
      exact hs
    rcases hv with ⟨v61, s, hs, hR⟩ | ⟨v61, s, hs, hR⟩
    · refine p_fillG hTz hUz pz (by rw [z71]; exact h71) nf s (fun k1 t1 g1 n1 mk1 _ => ?_)
      rw [hprs, ef] at mk1
      obtain ⟨d2, l2⟩ := dz.1.mono hTz g1.1 (by decide) (by decide)
      refine p_put g1.1.1 g1.1.2.1 d2 n1 (fun t3 g3 d3 l3 _ => ?_)
      have gzt : GZ f7I z t3 := (g1.1.mono f7M_I).tr (g3.mono f7D_I)
      refine ⟨rfl, rfl, i + 1, by omega, hil, guz.tr gzt, ?_, d3, ?_⟩
      · rw [(g3.2.2.2.2 71 (by decide)).1, g1.2.1]; exact z71
      · have e61 : t3.1 61 = t1.1 61 := (g3.2.2.2.2 61 (by decide)).1
        rw [e61, l3, l2, dz.2]
        rw [List.drop_eq_getElem_cons hil, hCLg i hil] at hR
        have hR : R = Sp.bd (Sp.bd (Sp.fill (Ob.lkD ps) (ob u (u.2.1 145 (30 * c + (i : Int))))) fun x => Sp.fills (Sp.fill (Ob.lkD ps)) (CL.drop (i + 1)) (Sp.putL (dfl v) x)) K s := hR
        rw [bd_assoc'] at hR
        rcases (mk1 (z61.trans v61)).cases with ⟨y161, s2, h1, h2⟩ | ⟨y161, s2, h1, h2⟩
        · rw [bind_ok h1] at hR
          exact Or.inl ⟨y161, s2, St t3 s s2 gzt hs h2, hR⟩
        · exact Or.inr ⟨y161, s2, St t3 s s2 gzt hs h2, by rw [hR]; exact bind_err h1⟩
    · refine p_fillG hTz hUz pz (by rw [z71]; exact h71) nf s (fun k1 t1 g1 n1 _ dead => ?_)
      obtain ⟨d2, l2⟩ := dz.1.mono hTz g1.1 (by decide) (by decide)
      refine p_put g1.1.1 g1.1.2.1 d2 n1 (fun t3 g3 d3 l3 _ => ?_)
      have gzt : GZ f7I z t3 := (g1.1.mono f7M_I).tr (g3.mono f7D_I)
      refine ⟨rfl, rfl, i + 1, by omega, hil, guz.tr gzt, ?_, d3, Or.inr ⟨?_, s, St t3 s s gzt hs rfl, hR⟩⟩
      · rw [(g3.2.2.2.2 71 (by decide)).1, g1.2.1]; exact z71
      · rw [(g3.2.2.2.2 61 (by decide)).1]; exact dead (by rw [z61]; exact v61)
  · refine ⟨fun z' => absurd z' zz, fun _ => ?_⟩
    have hj1 : j < L.length := by
      rcases Nat.lt_or_ge j L.length with q' | q'
      · exact q'
      · rw [List.drop_eq_nil_of_le q'] at hcons; cases hcons
    have hdj := List.drop_eq_getElem_cons hj1
    rw [hcons] at hdj
    injection hdj with _ hrest
    rw [hcons, pairsGo_cons] at hgj
    have hcd : Ob.len p = 2 ∧ Ob.isVar (Ob.lft p) = true ∧ Ob.lk (prs z) (Ob.lft p) = none := by
      by_cases cd : Ob.len p = 2 ∧ Ob.isVar (Ob.lft p) = true ∧ Ob.lk (prs z) (Ob.lft p) = none
      · exact cd
      · rw [if_neg cd] at hgj; cases hgj
    rw [if_pos hcd] at hgj
    obtain ⟨l0, l1, _, _, el, _, _⟩ := ob_lft hTz cc0 cc1 (by rw [ec]; exact (lft_item hcd.1).1)
    rw [ec] at el
    intro _ _ y4 ey4 _
    rw [ey4]
    refine p_nthL hTz cc0 cc1 (by decide) (by rw [ec, hcd.1]; decide) (fun k k0 k1 ek => ?_)
    rw [ec] at ek
    have ek : ob z k = Ob.item p 1 := ek
    have D1' : DOk z E := hD.mono hT guz (DSm.of guz.2.2.2.2 (by decide) (by decide) (by decide) (by decide) (by decide) (by decide) (by decide))
    refine p_termE (E := E) hTz hUz D1' (by rw [(guz.2.2.2.2 57 (by decide)).1]; exact h57) k0 k1 (by rw [z71]; exact h71) (fun k2 t2 g2 t261 hk2 => ?_)
    rw [ek] at hk2
    rcases hk2 with ⟨hn, _⟩ | ⟨nk2, _, er⟩
    · rw [hn] at hgj; cases hgj
    rw [er] at hgj
    have hgj : Sp.pairsGo E rest (prs z ++ [(Ob.lft p, ob t2 k2)]) = some ps := hgj
    intro y7 ey7 _ _ _ y8 ey8 _ _ _ y6 ey6 _ _ _ t3 et3 y9 ey9 _ _ _ t4 et4 y5 ey5 _ _ t5 et5 _ _ y10 ey10 _
    have g2' : GZ f7I z t2 := g2.1.mono f7M_I
    have t2q : ∀ k, f7M k = false → t2.1 k = z.1 k ∧ t2.2.1 k = z.2.1 k := fun k hk => g2.1.2.2.2.2 k hk
    have hy7 : y7 = z.1 74 := by rw [ey7, (t2q 74 (by decide)).1]
    have hy8 : y8 = z.2.1 0 x2 := by rw [ey8, (g2.1.2.2.1.2.1 x2 x0 x1').1]
    rw [hy8] at ey6
    have hy6 : y6 = z.2.1 0 (z.2.1 0 x2) := by rw [ey6, (g2.1.2.2.1.2.1 _ cc0 cc1).1]
    rw [hy7, hy6] at et3
    have hy9 : y9 = z.1 74 := by rw [ey9, et3]; show t2.1 74 = _; rw [(t2q 74 (by decide)).1]
    rw [hy9] at et4
    have hy5 : y5 = z.1 74 := by rw [ey5, et4, et3]; show t2.1 74 = _; rw [(t2q 74 (by decide)).1]
    rw [hy5] at et5
    have g3 : GZ f7I t2 t5 := by
      rw [et5, et4, et3]
      exact GZ_eq (GZ.rf g2'.1 g2'.2.1) (fun k hk => ⟨if_neg (by omega), (if_neg (by omega)).trans (if_neg (by omega))⟩) rfl (((Fx_A (by decide)).tr (Fx_A (by decide))).tr (Fx_I (by decide)))
    have t4n : ∀ k, k ≠ 74 → t5.1 k = t2.1 k := fun k hk => by rw [et5, et4, et3]; exact if_neg hk
    have t474 : t5.1 74 = z.1 74 + 1 := by rw [et5]; rfl
    have t473 : ∀ k, t5.2.1 73 k = if k = z.1 74 then k2 else t2.2.1 73 k := fun k => by rw [et5, et4, et3]; rfl
    have t472 : ∀ k, t5.2.1 72 k = if k = z.1 74 then z.2.1 0 (z.2.1 0 x2) else t2.2.1 72 k := fun k => by rw [et5, et4, et3]; rfl
    have t4r : ∀ k, k ≠ 72 → k ≠ 73 → t5.2.1 k = t2.2.1 k := fun k hk hk' => by rw [et5, et4, et3]; exact (if_neg hk').trans (if_neg hk)
    have hy10 : y10 = z.2.1 1 x2 := by
      rw [ey10, t4r 1 (by decide) (by decide), (g2.1.2.2.1.2.1 x2 x0 x1').2.1]
    have eo4 : ∀ j, ob t5 j = ob t2 j := ob_same (t4r 0 (by decide) (by decide)) (t4r 1 (by decide) (by decide)) (t4r 9 (by decide) (by decide)) (t4r 10 (by decide) (by decide)) (by rw [et5, et4, et3]; rfl)
    clear et3 et4 et5 ey9 ey10 ey5 ey6 ey7 ey8
    rw [hy10]
    have gz4 := g2'.tr g3
    have hle4 := gz4.le
    have row72 : ∀ k, t5.2.1 72 k = if k = z.1 74 then z.2.1 0 (z.2.1 0 x2) else z.2.1 72 k := fun k => by rw [t472, (t2q 72 (by decide)).2]
    have row73 : ∀ k, t5.2.1 73 k = if k = z.1 74 then k2 else z.2.1 73 k := fun k => by rw [t473, (t2q 73 (by decide)).2]
    have old : ∀ i', 0 ≤ i' → i' < z.1 74 → ob t5 (t5.2.1 72 i') = ob z (z.2.1 72 i') ∧ ob t5 (t5.2.1 73 i') = ob z (z.2.1 73 i') := fun i' i0 i1 => by
      obtain ⟨p1, p2, p3, p4, _⟩ := pz.1 i' i0 i1
      rw [row72, row73, if_neg (by omega), if_neg (by omega), gz4.ob hTz p1 p2, gz4.ob hTz p3 p4]
      exact ⟨rfl, rfl⟩
    have eprs : prs t5 = prs z ++ [(Ob.lft p, ob t2 k2)] := by
      rw [prs_snoc z74 t474 old, row72, if_pos rfl, row73, if_pos rfl, gz4.ob hTz l0 (by omega), ← el, eo4]
    obtain ⟨nk4, ek4⟩ := nk2.mono g2'.1 g3
    refine ⟨rfl, rfl, rfl, d0, by omega, gz.tr gz4, ?_, ?_, ?_, ?_, ?_, by omega, ⟨fun i' i0 i1 => ?_, fun qq hqq => ?_⟩, j + 1, hj1, ?_, ?_⟩
    · rw [t4n 71 (by decide), g2.2.1]; exact z71
    · rw [t4n 61 (by decide), t261]; exact z61
    · rw [t4n 60 (by decide), (t2q 60 (by decide)).1]; exact z60
    · rw [t4n 122 (by decide), (t2q 122 (by decide)).1]; exact z122
    · rw [t4r 121 (by decide) (by decide), (t2q 121 (by decide)).2]; exact z121
    · rw [row72, row73]
      by_cases ci : i' = z.1 74
      · rw [if_pos ci, if_pos ci]
        exact ⟨l0, by omega, nk4.1, nk4.2.1, nk4.2.2.1⟩
      · rw [if_neg ci, if_neg ci]
        obtain ⟨p1, p2, p3, p4, p5⟩ := pz.1 i' i0 (by omega)
        exact ⟨p1, by omega, p3, by omega, by rw [gz4.ob hTz p3 p4]; exact p5.mono gz4 hTz⟩
    · rw [eprs] at hqq
      rcases List.mem_append.mp hqq with h | h
      · exact pz.2 qq h
      · rw [List.mem_singleton.mp h]; exact nk2.2.2.2
    · rw [gz4.ob hTz d0 d1, ed, hrest]
    · rw [eprs, ← hrest]; exact hgj
