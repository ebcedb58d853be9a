-- deps: 513
theorem ru_103 [DecidableEq Ob] {x1 x4 x5 x6 x7 : Int} {Q : iST → Prop} {w : iST} {E : Sp.Env} {e n : Bool} {R : Option Sp.Rul} (hT : TI w) (hU : TU w) (nl : Nd w E x6) (nr : Nd w E x7) (h4 : bq x4 e) (h5 : bq x5 n) (hH : HyOk w E x1)
    (hR : R = Sp.ruleAt (hypL w x1) e n (ob w x6) (ob w x7))
    (hq : ∀ v, RuK x1 w v → RuO v E x1 R → Q v) : pw_ruleOf_103 Q x1 x4 x5 x6 x7 w := by
  -- no rule
  have bad : ∀ v : iST, GZ f7A w v → (Ob.isCall (ob w x6) && decide (Ob.lft (ob w x6) ≠ Ob.ifS) && decide (Ob.lft (ob w x6) ≠ Ob.not) && decide (Ob.lft (ob w x6) ≠ Ob.implies) && decide (ob w x6 ≠ ob w x7) && Sp.covers (ob w x6) (ob w x7)) = false → pw_ruleOf_171 Q x1 x4 x5 x6 x7 v := by
    intro v gv hz
    obtain ⟨nlv, elv⟩ := nl.mono hT gv
    obtain ⟨nrv, erv⟩ := nr.mono hT gv
    have k48 : v.2.1 48 = w.2.1 48 := (gv.2.2.2.2 48 (by decide)).2
    have k49 : v.2.1 49 = w.2.1 49 := (gv.2.2.2.2 49 (by decide)).2
    have kv : RuK x1 w v := RuK.of (gv.mono f7A_U) (fun m a b => (gv.2.2.2.2 m (by unfold f7A; simp only [decide_eq_false_iff_not]; omega)).2)
    unfold pw_ruleOf_171 pw_ruleOf_172
    refine ru_177 (g0 := false) (R := R) gv.1 gv.2.1 nlv nrv h4 h5 (bq0 rfl) ⟨by rw [k48]; exact hH.1, fun j j0 j1 => ?_⟩ ?_ (fun z => by cases z) (fun t kt rt => hq t (kv.tr kt) rt)
    · rw [k48] at j1
      rw [k49]; exact ((hH.2 j j0 j1).mono hT gv).1
    · rw [hR]
      unfold Sp.ruleAt
      rw [hz]
      rfl
  have a0 := nl.1
  have a1 := nl.2.1
  unfold pw_ruleOf_103
  refine p_isCall hT hU a0 a1 (fun b hb => ⟨fun hz => bad w (GZ.rf hT hU) (by rw [hb.f hz]; rfl), fun hz => ?_⟩)
  have hc := hb.t hz
  have hp : (ob w x6).isPr = true := by
    cases eo : ob w x6 with
    | var z => rw [eo] at hc; cases hc
    | op p q => rfl
  obtain ⟨f0, f1, _, _, ef, _, _⟩ := ob_lft hT a0 a1 hp
  have kf : ∀ (c : Int) (o : Ob), 0 ≤ c → c < 44 → Ob.known[c.toNat]? = some o → (w.2.1 0 x6 = c ↔ Ob.lft (ob w x6) = o) := fun c o c0 c4 ho => by
    rw [ef]; exact kat hT hU c c0 c4 ho f0 (by omega)
  intro _ _ y1 ey1 _
  rw [ey1]
  have k3 := kf 3 Ob.ifS (by decide) (by decide) rfl
  have k15 := kf 15 Ob.not (by decide) (by decide) rfl
  have k6 := kf 6 Ob.implies (by decide) (by decide) rfl
  refine ⟨fun z => bad w (GZ.rf hT hU) (by rw [hc, decide_eq_false (not_not_intro (k3.mp z))]; rfl), fun z3 => ?_⟩
  intro _ _ y2 ey2 _
  rw [ey2]
  have d3 : decide (Ob.lft (ob w x6) ≠ Ob.ifS) = true := decide_eq_true (fun z => z3 (k3.mpr z))
  refine ⟨fun z => bad w (GZ.rf hT hU) (by rw [hc, d3, decide_eq_false (not_not_intro (k15.mp z))]; rfl), fun z15 => ?_⟩
  have d15 : decide (Ob.lft (ob w x6) ≠ Ob.not) = true := decide_eq_true (fun z => z15 (k15.mpr z))
  intro _ _ y3 ey3 _
  rw [ey3]
  refine ⟨fun z => bad w (GZ.rf hT hU) (by rw [hc, d3, d15, decide_eq_false (not_not_intro (k6.mp z))]; rfl), fun z6 => ?_⟩
  have d6 : decide (Ob.lft (ob w x6) ≠ Ob.implies) = true := decide_eq_true (fun z => z6 (k6.mpr z))
  have ei := hT.inj hU a0 a1 nr.1 nr.2.1
  refine ⟨fun z => bad w (GZ.rf hT hU) (by rw [hc, d3, d15, d6, decide_eq_false (not_not_intro (ei.mpr z))]; rfl), fun zi => ?_⟩
  have di : decide (ob w x6 ≠ ob w x7) = true := decide_eq_true (fun z => zi (ei.mp z))
  refine p_covers (ar := Sp.arOf E) hT hU nl nr (fun q v gv hq' => ⟨fun hd => bad v gv (by rw [hc, d3, d15, d6, di, hq'.f hd]; rfl), fun hd => ?_⟩)
  have hcov := hq'.t hd
  obtain ⟨nlv, elv⟩ := nl.mono hT gv
  obtain ⟨nrv, erv⟩ := nr.mono hT gv
  have k48 : v.2.1 48 = w.2.1 48 := (gv.2.2.2.2 48 (by decide)).2
  have k49 : v.2.1 49 = w.2.1 49 := (gv.2.2.2.2 49 (by decide)).2
  have kv : RuK x1 w v := RuK.of (gv.mono f7A_U) (fun m a b => (gv.2.2.2.2 m (by unfold f7A; simp only [decide_eq_false_iff_not]; omega)).2)
  have h0 := hH.1
  have eh : hypL v x1 = hypL w x1 := by
    rw [hypL_ls, hypL_ls, k48, k49]
    exact ls_congr (fun j hj => ((hH.2 _ (by omega) (by omega)).mono hT gv).2)
  unfold pw_ruleOf_172
  refine ru_177 (g0 := true) (R := R) gv.1 gv.2.1 nlv nrv h4 h5 (bq1 rfl) ⟨by rw [k48]; exact h0, fun j j0 j1 => ?_⟩ ?_ (fun _ => ?_) (fun t kt rt => hq t (kv.tr kt) rt)
  · rw [k48] at j1
    rw [k49]; exact ((hH.2 j j0 j1).mono hT gv).1
  · rw [hR, elv, erv, eh]
    unfold Sp.ruleAt
    rw [hc, d3, d15, d6, di, hcov]
    rfl
  · rw [elv, erv]; exact ⟨hc, covers_vr hcov⟩
theorem p_ruleOf [DecidableEq Ob] {r F : Int} {Q : iST → Prop} {u : iST} {E : Sp.Env} (hT : TI u) (hU : TU u) (nF : Nd u E F) (hq : ∀ v, RuK r u v → RuO v E r (Sp.ruleOf (ob u F)) → Q v) : pw_ruleOf r F Q u := by
  unfold pw_ruleOf
  intro _ _ w ew
  have kw : RuK r u w := by rw [ew]; exact RuK_A hT hU (by decide) (by decide) (by decide)
  have w48 : w.2.1 48 r = 0 := by rw [ew]; exact if_pos rfl
  clear ew
  obtain ⟨nFw, eFw⟩ := nF.mono hT kw.1
  refine pw_ruleOf_9_i (fun x1 x3 v => x1 = r ∧ RuK r u v ∧ Nd v E x3 ∧ HyOk v E r ∧ Sp.ruleGo (ob u F) [] = Sp.ruleGo (ob v x3) (hypL v r)) ?_ ⟨rfl, kw, nFw, ⟨by omega, fun i i0 i1 => by omega⟩, by
    rw [hypL_ls, w48, eFw]; rfl⟩
  intro x1 x3 v hI
  obtain ⟨e1, kv, nv, hv, hg⟩ := hI
  rw [e1]
  have hTv := kv.1.1
  have hUv := kv.1.2.1
  unfold pw_ruleOf_9b
  refine p_callK hTv hUv nv.1 nv.2.1 6 (by decide) (by decide) rfl (fun b hb => ⟨fun hz => ?_, fun hz => ?_⟩)
  · rw [ruleGo_no _ (hb.f hz)] at hg
    have hR : Sp.ruleOf (ob u F) = Sp.ruleOn (hypL v r) (ob v x3) := by unfold Sp.ruleOf; rw [hg]
    refine p_callK hTv hUv nv.1 nv.2.1 4 (by decide) (by decide) rfl (fun v2 h2 => ?_)
    refine p_callK hTv hUv nv.1 nv.2.1 15 (by decide) (by decide) rfl (fun v3 h3 => ?_)
    have k0 := kn hTv hUv 0 (by decide) (by decide) rfl
    have k1 := kn hTv hUv 1 (by decide) (by decide) rfl
    have n0 : Nd v E 0 := ⟨k0.1, k0.2.1, by rw [k0.2.2]; exact Tm_leaf rfl, by rw [k0.2.2]; exact Ob.wt_leaf rfl⟩
    have n1 : Nd v E 1 := ⟨k1.1, k1.2.1, by rw [k1.2.2]; exact Tm_leaf rfl, by rw [k1.2.2]; exact Ob.wt_leaf rfl⟩
    -- the left side is there
    have go : ∀ y0, Nd v E y0 → ob v y0 = (if (Ob.isCallOf (ob v x3) Ob.equal || Ob.isCallOf (ob v x3) Ob.not) = true then Ob.item (ob v x3) 1 else ob v x3) → pw_ruleOf_77 Q r x3 v2 v3 y0 v := by
      intro y0 ny ey
      unfold pw_ruleOf_77
      refine ⟨fun z2 => ⟨fun z3 => ?_, fun z3 => ?_⟩, fun z2 => ?_⟩
      · refine ru_103 hTv hUv ny n1 h2 h3 hv (R := Sp.ruleOf (ob u F)) ?_ (fun t kt rt => hq t (kv.tr kt) rt)
        rw [hR, ey, k1.2.2]
        unfold Sp.ruleOn
        rw [h2.f z2, h3.f z3]
        rfl
      · refine ru_103 hTv hUv ny n0 h2 h3 hv (R := Sp.ruleOf (ob u F)) ?_ (fun t kt rt => hq t (kv.tr kt) rt)
        rw [hR, ey, k0.2.2]
        unfold Sp.ruleOn
        rw [h2.f z2, h3.t z3]
        rfl
      · refine p_it hTv nv (h2.t z2) equal_q (arOf_equal E) (by decide) (by decide) (by decide) (fun j nj ej => ?_)
        refine ru_103 hTv hUv ny nj h2 h3 hv (R := Sp.ruleOf (ob u F)) ?_ (fun t kt rt => hq t (kv.tr kt) rt)
        rw [hR, ey, ej]
        unfold Sp.ruleOn
        rw [h2.t z2]
        rfl
    have first : (Ob.isCallOf (ob v x3) Ob.equal = true ∨ Ob.isCallOf (ob v x3) Ob.not = true) → pw_ruleOf_67 Q r x3 v2 v3 v := by
      intro hor
      unfold pw_ruleOf_67
      have hb2 : (Ob.isCallOf (ob v x3) Ob.equal || Ob.isCallOf (ob v x3) Ob.not) = true := by
        rw [Bool.or_eq_true]; exact hor
      rcases hor with h | h
      · refine p_it hTv nv h equal_q (arOf_equal E) (by decide) (by decide) (by decide) (fun j nj ej => go j nj ?_)
        rw [if_pos hb2]; exact ej
      · refine p_it hTv nv h not_q (arOf_not E) (by decide) (by decide) (by decide) (fun j nj ej => go j nj ?_)
        rw [if_pos hb2]; exact ej
    refine ⟨fun z2 => first (Or.inl (h2.t z2)), fun z2 => ⟨fun z3 => go x3 nv ?_, fun z3 => first (Or.inr (h3.t z3))⟩⟩
    rw [h2.f (Decidable.not_not.mp z2), h3.f z3]
    rfl
  · have himp := hb.t hz
    obtain ⟨h, c, ehc, _⟩ := Ob.wt_two nv.2.2.2 himp implies_q (arOf_implies E)
    refine p_it hTv nv himp implies_q (arOf_implies E) (by decide) (by decide) (by decide) (fun j nj ej => ?_)
    have ej : ob v j = h := by rw [ej, ehc]; rfl
    refine p_hypotheses hTv hUv nj hv (fun t kt ht hlt => ?_)
    rw [ej] at hlt
    obtain ⟨nvt, evt⟩ := nv.mono hTv kt.1
    refine p_it kt.1.1 nvt (by rw [evt]; exact himp) implies_q (arOf_implies E) (by decide) (by decide) (by decide) (fun j2 nj2 ej2 => ?_)
    have ej2 : ob t j2 = c := by rw [ej2, evt, ehc]; rfl
    refine ⟨rfl, kv.tr kt.ru, nj2, ht, ?_⟩
    rw [hg, ehc, ruleGo_imp, hlt, ej2]
