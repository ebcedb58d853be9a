-- deps: 538
/-! the reference: (put PROOF PROOF) -/
theorem rp_wt [DecidableEq Ob] {ar : Ob → Int} {x y : Ob} (hy : Ob.wt ar y) : ∀ (m : Bool) (o : Ob), Ob.wtM ar m o → Ob.wtM ar m (Ob.rpM x y m o) ∧ (m = true → (Ob.rpM x y m o).len = o.len)
  | true, .op a b, h => by
    have h1 := rp_wt (x := x) hy false a h.1
    have h2 := rp_wt (x := x) hy true b h.2
    rw [show Ob.rpM x y true (.op a b) = .pr (Ob.rpM x y false a) (Ob.rpM x y true b) from rfl]
    refine ⟨⟨h1.1, h2.1⟩, fun _ => ?_⟩
    rw [Ob.len_pr, h2.2 rfl]
    rfl
  | true, .var z, h => ⟨h, fun _ => rfl⟩
  | false, .op a b, h => by
    rw [show Ob.rpM x y false (.op a b) = if Ob.pr a b = x then y else if a = Ob.quote then Ob.pr a b else Ob.pr a (Ob.rpM x y true b) from rfl]
    refine ⟨?_, fun z => by cases z⟩
    by_cases c0 : Ob.pr a b = x
    · rw [if_pos c0]; exact hy
    rw [if_neg c0]
    by_cases c : a = Ob.quote
    · rw [if_pos c]; exact h
    · rw [if_neg c]
      obtain ⟨g1, g2, g3⟩ := h.2 c
      have h2 := rp_wt (x := x) hy true b g3
      exact ⟨fun z => absurd z c, fun _ => ⟨g1, (h2.2 rfl).trans g2, h2.1⟩⟩
  | false, .var z, h => by
    rw [show Ob.rpM x y false (.var z) = if .var z = x then y else .var z from rfl]
    refine ⟨?_, fun z => by cases z⟩
    by_cases c : .var z = x
    · rw [if_pos c]; exact hy
    · rw [if_neg c]; exact h
theorem p_putG [DecidableEq Ob] {a x y : Int} {Q : Int → iST → Prop} {u : iST} {E : Sp.Env} (hT : TI u) (hU : TU u) (h74 : u.1 74 = 0) (h71 : 0 ≤ u.1 71) (na : Nd u E a) (nx : Nd u E x) (ny : Nd u E y) (s : Sp.Wk)
    (hq : ∀ k v, GM u v → Nd v E k → (u.1 61 = 0 → MK (Sp.big (Ob.rpM (ob u x) (ob u y) false (ob u a)) (Ob.csM false (ob u a)).toNat) s v k) → (u.1 61 ≠ 0 → v.1 61 ≠ 0) → Q k v) : pw_anew a x y Q u := by
  refine p_anew hT hU (fun i i0 i1 => by omega) na.1 na.2.1 na.2.2.1 (fun _ => ⟨nx.2.1, ny.1, ny.2.1, ny.2.2.1⟩) h71 (fun k v hG k0 k1 ek tk fk => ?_)
  have hp : prs u = [] := by unfold prs; rw [h74]; rfl
  rw [agM_rp (x := ob u x) (y := ob u y) (fun o => by
    unfold wl
    have h0 := nx.1
    by_cases c : o = ob u x
    · rw [if_pos ⟨h0, c⟩, if_pos c]
    · rw [if_neg (fun z => c z.2), if_neg c, hp]; rfl) false _] at ek
  refine hq k v hG ⟨k0, k1, tk, by rw [ek]; exact (rp_wt ny.2.2.2 false _ na.2.2.2).1⟩ (fun h61 => ?_) (fun h61 => ?_)
  · exact MK_big h61 ek fk
  · rw [fk]; exact bw_ne h61
theorem filter_first [DecidableEq Ob] {e : Ob} {l : List Ob} (h : (e :: l).Nodup) : (e :: l).filter (fun y => decide (y ≠ e)) = l := by
  rw [List.filter_cons_of_neg (by simp), List.filter_eq_self.mpr (fun y hy => ?_)]
  refine decide_eq_true (fun z => ?_)
  rw [z] at hy
  exact (List.nodup_cons.mp h).1 hy
/-- a clause poured but for its first literal -/
theorem p_pourRest [DecidableEq Ob] {c : Int} {Q : iST → Prop} {u : iST} {E : Sp.Env} {e : Ob} {l : List Ob} (hT : TI u) (hU : TU u) (hC : ClzOk u E c) (hD : DfOk u E) (hN : (clz u c).Nodup) (hc : clz u c = e :: l)
    (hq : ∀ v, GZ f7D u v → DfOk v E → dfl v = l.foldl Sp.putL (dfl u) → Q v) : pw_pour c (u.2.1 145 (30 * c)) Q u := by
  have cl := clz_len u c
  rw [hc] at cl
  have cl : l.length + 1 = (u.2.1 146 c).toNat := cl
  have hg := clz_get (u := u) (c := c) (i := 0) (by omega)
  rw [hc] at hg
  have he : e = ob u (u.2.1 145 (30 * c + ((0 : Nat) : Int))) := Option.some.inj hg
  rw [show 30 * c + ((0 : Nat) : Int) = 30 * c by omega] at he
  have nd := hC.2.2 0 (by omega) (by omega)
  rw [Int.add_zero] at nd
  refine p_pour (keep := fun y => decide (y ≠ e)) hT hU hC hD (fun i i0 i1 => ?_) (fun v gv dv lv => hq v gv dv ?_)
  · have ni := hC.2.2 i i0 i1
    have := hT.inj hU ni.1 ni.2.1 nd.1 nd.2.1
    rw [← this, ← he]
    exact ⟨fun z => decide_eq_false (fun q => q z), fun z => Decidable.not_not.mp (of_decide_eq_false z)⟩
  · rw [lv, hc, filter_first (by rw [← hc]; exact hN)]
theorem p_replaced [DecidableEq Ob] {c : Int} {Q : Int → iST → Prop} {u0 u : iST} {E : Sp.Env} {R : EStateM.Result Unit Sp.Wk (List Ob)} {K0 K : List Ob → Sp.M (List Ob)} (h71 : 0 ≤ u.1 71) (hC : ClzOk u E c) (hN : (clz u c).Nodup) (hC1 : ClzOk u E (c + 1))
    (hL : LyD u0 u E R K0) (h0 : (∀ e l, clz u c = e :: l → e.isCallOf Ob.equal = false) → Q 0 u)
    (h1 : ∀ e l, clz u c = e :: l → e.isCallOf Ob.equal = true → K0 = fun z => Sp.bd (Sp.bd (Sp.fills (fun a => Sp.big (Ob.rpM (Ob.item e 1) (Ob.item e 2) false a) (Ob.csM false a).toNat) (clz u (c + 1)) z) fun x => Sp.ret (l.foldl Sp.putL x)) K)
    (hq : ∀ v, GZ f7I u v → LyD u0 v E R K → Q 1 v) : pw_replaced c Q u := by
  obtain ⟨g0, u71, hDf, hst⟩ := hL
  have hT := g0.1
  have hU := g0.2.1
  have c10 := hC1.1
  unfold pw_replaced
  refine p_beginsEqual hT hU hC (fun h => ⟨fun z => absurd rfl z, fun _ _ => h0 h⟩) (fun hpos hcall => ⟨fun _ => ?_, fun z => absurd (Decidable.not_not.mp z) (by decide)⟩)
  have nd := hC.2.2 0 (by omega) hpos
  rw [Int.add_zero] at nd
  obtain ⟨e, l, hel, he⟩ : ∃ e l, clz u c = e :: l ∧ e = ob u (u.2.1 145 (30 * c)) := by
    have cl := clz_len u c
    have hg := clz_get (u := u) (c := c) (i := 0) (by omega)
    cases hc : clz u c with
    | nil => rw [hc] at cl; simp at cl; omega
    | cons e l =>
      rw [hc] at hg
      have he : e = ob u (u.2.1 145 (30 * c + ((0 : Nat) : Int))) := Option.some.inj hg
      rw [show 30 * c + ((0 : Nat) : Int) = 30 * c by omega] at he
      exact ⟨e, l, rfl, he⟩
  have hK0 := h1 e l hel (by rw [he]; exact hcall)
  rw [hK0] at hst
  intro _ _ _ y1 ey1 _
  rw [ey1]
  refine p_it hT nd hcall equal_q (arOf_equal E) (by decide) (by decide) (by decide) (fun x nx ex => ?_)
  intro _ _ _ y2 ey2 _
  rw [ey2]
  refine p_it hT nd hcall equal_q (arOf_equal E) (by decide) (by decide) (by decide) (fun y ny ey => ?_)
  rw [← he] at ex ey
  have ex : ob u x = Ob.item e 1 := ex
  have ey : ob u y = Ob.item e 2 := ey
  rw [← ex, ← ey] at hst
  have cl := clz_len u (c + 1)
  generalize hCL : clz u (c + 1) = CL at hst cl
  have hCLg : ∀ (i : Nat) (h : i < CL.length), CL[i] = ob u (u.2.1 145 (30 * (c + 1) + (i : Int))) := by
    intro i h
    have := clz_get (u := u) (c := c + 1) (i := i) (by omega)
    rw [hCL, List.getElem?_eq_getElem h] at this
    exact Option.some.inj this
  generalize hf : (fun a : Ob => Sp.big (Ob.rpM (ob u x) (ob u y) false a) (Ob.csM false a).toNat) = f at hst
  refine pw_replaced_43_i (fun x1 x2 x3 x4 v => x1 = c ∧ x2 = x ∧ x3 = y ∧ ∃ i : Nat, x4 = (i : Int) ∧ i ≤ CL.length ∧ GZ f7I u v ∧ v.1 71 = u.1 71 ∧ DfOk v E ∧ ((v.1 61 = 0 ∧ ∃ s, StL v s ∧ R = Sp.bd (Sp.bd (Sp.fills f (CL.drop i) (dfl v)) fun x => Sp.ret (l.foldl Sp.putL x)) K s) ∨ (v.1 61 ≠ 0 ∧ ∃ s, StL v s ∧ R = .error () s))) ?_ ⟨rfl, rfl, rfl, 0, rfl, Nat.zero_le _, GZ.rf hT hU, rfl, hDf, hst⟩
  intro x1 x2 x3 x4 v hI
  obtain ⟨e1, e2, e3, i, e4, hi, gv, v71, dv, hv⟩ := hI
  rw [e1, e2, e3, e4]
  have hTv := gv.1
  have hUv := gv.2.1
  have k145 := (gv.2.2.2.2 145 (by decide)).2
  have k146 := (gv.2.2.2.2 146 (by decide)).2
  unfold pw_replaced_43b
  intro _ _ _ y3 ey3 _
  rw [k146] at ey3
  rw [ey3]
  refine ⟨fun hc => ?_, fun hc => ?_⟩
  · intro _ _ _ y4 ey4 _
    obtain ⟨cv, ev⟩ := hC.fx hT gv (by decide) (by decide)
    rw [ey4]
    refine p_pourRest (e := e) (l := l) hTv hUv cv dv (by rw [ev]; exact hN) (ev.trans hel) (fun w gw dw lw _ => hq w (gv.tr (gw.mono f7D_I)) ⟨g0.tr (gv.tr (gw.mono f7D_I)), ?_, dw, ?_⟩)
    · rw [(gw.2.2.2.2 71 (by decide)).1, v71, u71]
    · have e61 : w.1 61 = v.1 61 := (gw.2.2.2.2 61 (by decide)).1
      rw [e61, lw]
      rcases hv with ⟨a, s, hs, hR⟩ | ⟨a, s, hs, hR⟩
      · refine Or.inl ⟨a, s, hs.gz gw (by decide) (by decide) rfl, ?_⟩
        rw [hR, List.drop_eq_nil_of_le (by omega)]
        rfl
      · exact Or.inr ⟨a, s, hs.gz gw (by decide) (by decide) rfl, hR⟩
  · have hil : i < CL.length := by omega
    have ndi := hC1.2.2 (i : Int) (by omega) (by omega)
    intro w ew
    have gw : GZ f7I v w := by rw [ew]; exact GZ_eq (GZ.rf hTv hUv) (fun k hk => ⟨if_neg (by omega), rfl⟩) rfl (Fx_I (by decide))
    have wn : ∀ k, k ≠ 74 → w.1 k = v.1 k := fun k hk => by rw [ew]; exact if_neg hk
    have w74 : w.1 74 = 0 := by rw [ew]; rfl
    have w2 : w.2 = v.2 := by rw [ew]; rfl
    clear ew
    have guw := gv.tr gw
    intro _ _ _ _ _ y4 ey4 _
    rw [w2, k145] at ey4
    rw [ey4]
    obtain ⟨nf, ef⟩ := ndi.mono hT guw
    obtain ⟨nx', ex'⟩ := nx.mono hT guw
    obtain ⟨ny', ey'⟩ := ny.mono hT guw
    have dz : DfOk w E ∧ dfl w = dfl v := by
      refine ⟨⟨by rw [wn 122 (by decide)]; exact dv.1, fun i' i0 i1 => ?_⟩, ?_⟩
      · rw [wn 122 (by decide)] at i1
        rw [w2]; exact ((dv.2 i' i0 i1).mono hTv gw).1
      · unfold dfl
        rw [wn 122 (by decide), w2]
        refine ls_congr (fun i' hi' => ?_)
        have := dv.1
        exact ((dv.2 _ (by omega) (by omega)).mono hTv gw).2
    rcases hv with ⟨v61, s, hs, hR⟩ | ⟨v61, s, hs, hR⟩
    · refine p_putG gw.1 gw.2.1 w74 (by rw [wn 71 (by decide), v71]; exact h71) nf nx' ny' s (fun k1 t1 g1 n1 mk1 _ => ?_)
      rw [ef, ex', ey'] at mk1
      obtain ⟨d2, l2⟩ := dz.1.mono gw.1 g1.1 (by decide) (by decide)
      refine p_put g1.1.1 g1.1.2.1 d2 n1 (fun t3 g3 d3 l3 _ => ?_)
      have gzt : GZ f7I w t3 := (g1.1.mono f7M_I).tr (g3.mono f7D_I)
      refine ⟨rfl, rfl, rfl, i + 1, by omega, hil, guw.tr gzt, ?_, d3, ?_⟩
      · rw [(g3.2.2.2.2 71 (by decide)).1, g1.2.1, wn 71 (by decide)]; exact v71
      · have e61 : t3.1 61 = t1.1 61 := (g3.2.2.2.2 61 (by decide)).1
        rw [e61, l3, l2, dz.2]
        rw [List.drop_eq_getElem_cons hil, hCLg i hil] at hR
        have hR : R = Sp.bd (Sp.bd (Sp.bd (f (ob u (u.2.1 145 (30 * (c + 1) + (i : Int))))) fun x => Sp.fills f (CL.drop (i + 1)) (Sp.putL (dfl v) x)) fun x => Sp.ret (l.foldl Sp.putL x)) K s := hR
        rw [bd_assoc', bd_assoc'] at hR
        have mk1 := mk1 ((wn 61 (by decide)).trans v61)
        rw [show Sp.big (Ob.rpM (ob u x) (ob u y) false (ob u (u.2.1 145 (30 * (c + 1) + (i : Int))))) (Ob.csM false (ob u (u.2.1 145 (30 * (c + 1) + (i : Int))))).toNat = f (ob u (u.2.1 145 (30 * (c + 1) + (i : Int)))) by rw [← hf]] at mk1
        rcases mk1.cases with ⟨y161, s2, h1, h2⟩ | ⟨y161, s2, h1, h2⟩
        · rw [bind_ok h1] at hR
          exact Or.inl ⟨y161, s2, hs.gz (gw.tr gzt) (by decide) (by decide) h2, by rw [hR, bd_assoc']⟩
        · exact Or.inr ⟨y161, s2, hs.gz (gw.tr gzt) (by decide) (by decide) h2, by rw [hR]; exact bind_err h1⟩
    · refine p_putG gw.1 gw.2.1 w74 (by rw [wn 71 (by decide), v71]; exact h71) nf nx' ny' s (fun k1 t1 g1 n1 _ dead => ?_)
      obtain ⟨d2, l2⟩ := dz.1.mono gw.1 g1.1 (by decide) (by decide)
      refine p_put g1.1.1 g1.1.2.1 d2 n1 (fun t3 g3 d3 l3 _ => ?_)
      have gzt : GZ f7I w t3 := (g1.1.mono f7M_I).tr (g3.mono f7D_I)
      refine ⟨rfl, rfl, rfl, i + 1, by omega, hil, guw.tr gzt, ?_, d3, Or.inr ⟨?_, s, hs.gz (gw.tr gzt) (by decide) (by decide) rfl, hR⟩⟩
      · rw [(g3.2.2.2.2 71 (by decide)).1, g1.2.1, wn 71 (by decide)]; exact v71
      · rw [(g3.2.2.2.2 61 (by decide)).1]; exact dead (by rw [wn 61 (by decide)]; exact v61)
