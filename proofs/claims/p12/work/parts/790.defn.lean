-- deps: 789
/-! the class: a definition as told -/
def DfH [DecidableEq Ob] (o : Ob) : Prop := (Ob.len o = 4 ∨ Ob.len o = 5) ∧ Ob.isName (Ob.item o 1) = true ∧ Ob.len (Ob.item o 2) ≠ -1 ∧ (Ob.toList (Ob.item o 2)).length ≤ 6 ∧ Sp.areVars (Ob.toList (Ob.item o 2)) = true
def DfA [DecidableEq Ob] (H : Sp.Hs) (o : Ob) (v : iST) (r : Int) : Prop :=
  (r = 0 ∧ ∀ fuel, Sp.RanD H fuel o (Sp.nothing H)) ∨ (r = 1 ∧ ∃ (B : Ob) (m : Option Ob), DfH o ∧ Ob.rdT (Sp.arC (H.env []) (Ob.item o 1) (Ob.toList (Ob.item o 2)).length) (Ob.item o 3) = some B ∧ (if Ob.len o = 5 then (Ob.rdT (Sp.arC (H.env []) (Ob.item o 1) (Ob.toList (Ob.item o 2)).length) (Ob.item o 4)).map some else some none) = some m ∧ Sp.dfOk o B m ∧ (VN v (v.1 45) ∧ oc v (v.1 45) = B) ∧ ((m = none ∧ v.1 46 = -1) ∨ ∃ M, m = some M ∧ VN v (v.1 46) ∧ oc v (v.1 46) = M))
theorem arC6 [DecidableEq Ob] {E : Sp.Env} {n : Ob} {k : Int} (h : ∀ f, Sp.arOf E f ≤ 6) (hk : k ≤ 6) (f : Ob) : Sp.arC E n k f ≤ 6 := by
  unfold Sp.arC
  split
  · exact hk
  · exact h f
theorem arC_sy [DecidableEq Ob] {E : Sp.Env} {n : Ob} {k : Int} (hn : n.isSym = true) (h : ∀ f : Ob, f.isSym = false → Sp.arOf E f = -1) (f : Ob) (hf : f.isSym = false) : Sp.arC E n k f = -1 := by
  unfold Sp.arC
  rw [if_neg (fun z => by rw [z, hn] at hf; cases hf)]
  exact h f hf
theorem arC_if [DecidableEq Ob] {E : Sp.Env} {n : Ob} {k : Int} (hb : n.isBase = false) : Sp.arC E n k Ob.ifS = 3 := by
  unfold Sp.arC
  have e : Ob.isBase Ob.ifS = true := by
    unfold Ob.isBase
    rw [decide_eq_true (rfl : Ob.ifS = Ob.ifS)]
    rfl
  rw [if_neg (fun z => by rw [← z, e] at hb; cases hb)]
  exact arOf_ifS E
theorem pc_isDefinition [DecidableEq Ob] {a b : Int} {Q : Int → iST → Prop} {u : iST} {H : Sp.Hs} (hR : RdE u (H.env [])) (va : VN u a) (hz : npr (oc u a) ≤ 100000) (hroom : u.1 29 + 2 * npr (oc u a) ≤ 160000) (v44 : VN u (u.1 44)) (e44 : oc u (u.1 44) = Ob.item (oc u a) 1) (hn : Ob.isName (Ob.item (oc u a) 1) = true) (hl : ((oc u a).len = 4 ∧ b = 0) ∨ ((oc u a).len = 5 ∧ b = 1))
    (hq : ∀ r v, CG f8Dn f8Dr u v → RdE v (H.env []) → v.1 29 ≤ u.1 29 + (Ob.csM false (Ob.item (oc u a) 3) + Ob.csM false (Ob.item (oc u a) 4)) → v.1 44 = u.1 44 → v.1 47 = u.1 47 → DfA H (oc u a) v r → Q r v) : pv_11_isDefinition a b Q u := by
  obtain ⟨hT, hD, h37, h32, hs0⟩ := hR
  have hR : RdE u (H.env []) := ⟨hT, hD, h37, h32, hs0⟩
  obtain ⟨nb, ns, nq, _, _⟩ := isName_base hn
  generalize eo : oc u a = o at *
  have np := npr_pos o
  have a3 := (csM_it false (Ob.item o 3)).1
  have a4 := (csM_it false (Ob.item o 4)).1
  have bad1 : ¬ DfH o → Q 0 u := fun h => hq 0 u (CG.rf hT) hR (by omega) rfl rfl (Or.inl ⟨rfl, fun fuel => RanD_1 h⟩)
  unfold pv_11_isDefinition
  refine pc_item hT va (by decide) (fun t vt et => ?_)
  have et : oc u t = Ob.item o 2 := by rw [← eo]; exact et
  refine pc_lengthOf hT vt ?_
  rw [et]
  have ll := Ob.len_low (Ob.item o 2)
  refine ⟨fun c _ => bad1 (fun h => h.2.2.1 (by omega)), fun c => ?_⟩
  have hlen : Ob.len (Ob.item o 2) ≠ -1 := by omega
  have tl := toList_len' hlen
  refine ⟨fun c _ => bad1 (fun h => by have := h.2.2.2.1; omega), fun c6 => ?_⟩
  refine pc_areDifferentVariables hT vt (fun r hr => ?_)
  rw [et] at hr
  refine ⟨fun c1 => ?_, fun c1 _ => bad1 (fun h => ?_)⟩
  rotate_left
  · have := hr.f (Decidable.not_not.mp c1)
    rw [h.2.2.2.2] at this
    cases this
  have hDfH : DfH o := ⟨by omega, hn, hlen, by omega, hr.t c1⟩
  generalize hk : (Ob.toList (Ob.item o 2)).length = k at *
  intro v4 e4 _ y1 ey1 y2 ey2
  rw [← tl] at ey2
  have g1 : CG f8Dn f8Dr u y1 := by rw [ey1]; exact CG_I hT (by decide) (by decide)
  have g2 : CG f8Dn f8Dr y1 y2 := by rw [ey2]; exact CG_I g1.1 (by decide) (by decide)
  have g12 := g1.tr g2
  have y2n : ∀ j, j ≠ 37 → j ≠ 38 → y2.1 j = u.1 j := fun j h1 h2 => by rw [ey2, iIc_ne _ _ h2, ey1, iIc_ne _ _ h1]
  have y237 : y2.1 37 = u.1 44 := by rw [ey2, iIc_ne _ _ (by decide), ey1, iIc_at, e4]
  have y238 : y2.1 38 = (k : Int) := by rw [ey2, iIc_at]
  have y22 : y2.2 = u.2 := by rw [ey2, ey1]; rfl
  have oc2 : ∀ x, oc y2 x = oc u x := fun x => oc_same (by rw [y22]) x
  have hD2 : DOc y2 (H.env []) := hD.mono hT g12 (y2n 0 (by decide) (by decide)) (fun k _ => by rw [y22])
  have lo : ∀ j, j ≤ 4 → f8Dr j = false := fun j hj => by unfold f8Dr; simp only [Bool.or_eq_false_iff, decide_eq_false_iff_not]; omega
  have h6 := arOf6 hD
  have y229 : y2.1 29 = u.1 29 := y2n 29 (by decide) (by decide)
  refine pc_item g12.1 (va.up g12) (by decide) (fun t3 vt3 et3 => ?_)
  have et3 : oc y2 t3 = Ob.item o 3 := by rw [← eo, ← oc2 a]; exact et3
  have np3 := npr_item 3 o
  obtain ⟨c1a, c1b⟩ := csM_npr false (oc y2 t3)
  have c1b : (oc y2 t3).sz ≤ npr (oc y2 t3) + 1 := c1b
  rw [et3] at c1a c1b
  refine pc_readX (ar := Sp.arC (H.env []) (Ob.item o 1) (k : Int)) g12.1 hD2 (Or.inr ⟨by rw [y237]; exact v44.up g12, by rw [y237, y238, oc2, e44]⟩) (arC6 h6 (by omega)) (arC_sy ns hs0) vt3 (by rw [et3]; omega) (by rw [y2n 32 (by decide) (by decide)]; exact h32) (by rw [et3]; omega) (fun x v gv v29 v32 hor => ?_)
  rw [et3] at v29 hor
  have gvD : CG f8Dn f8Dr y2 v := gv.mono f8B_D f8W_D
  have vn : ∀ j, j ≠ 29 → j ≠ 32 → v.1 j = y2.1 j := fun j h1 h2 => gv.2.2.1 j (by unfold f8B; rw [decide_eq_false h1, decide_eq_false h2]; rfl)
  intro z1 ez1 z2 ez2
  have gz1 : CG f8Dn f8Dr v z1 := by rw [ez1]; exact CG_I gv.1 (by decide) (by decide)
  have gz2 : CG f8Dn f8Dr z1 z2 := by rw [ez2]; exact CG_I gz1.1 (by decide) (by decide)
  have gz := gz1.tr gz2
  have guz := (g12.tr gvD).tr gz
  have zn : ∀ j, j ≠ 45 → j ≠ 38 → z2.1 j = v.1 j := fun j h1 h2 => by rw [ez2, iIc_ne _ _ h2, ez1, iIc_ne _ _ h1]
  have z45 : z2.1 45 = x := by rw [ez2, iIc_ne _ _ (by decide), ez1, iIc_at]
  have z38 : z2.1 38 = -1 := by rw [ez2, iIc_at]
  have z2r : z2.2 = v.2 := by rw [ez2, ez1]; rfl
  have ocz : ∀ x, oc z2 x = oc v x := fun x => oc_same (by rw [z2r]) x
  have z37 : z2.1 37 = u.1 44 := by rw [zn 37 (by decide) (by decide), vn 37 (by decide) (by decide)]; exact y237
  have z44 : z2.1 44 = u.1 44 := by rw [zn 44 (by decide) (by decide), vn 44 (by decide) (by decide), y2n 44 (by decide) (by decide)]
  have z47 : z2.1 47 = u.1 47 := by rw [zn 47 (by decide) (by decide), vn 47 (by decide) (by decide), y2n 47 (by decide) (by decide)]
  have z32 : z2.1 32 = 0 := by rw [zn 32 (by decide) (by decide)]; exact v32
  have z29 : z2.1 29 ≤ u.1 29 + Ob.csM false (Ob.item o 3) := by rw [zn 29 (by decide) (by decide)]; omega
  have hDz : DOc z2 (H.env []) := hD.mono hT guz (guz.2.2.1 0 (by decide)) (fun k hk => guz.2.2.2 k (lo k hk))
  have on44 : oc z2 (u.1 44) = Ob.item o 1 := by rw [guz.oc hT v44.1 v44.2]; exact e44
  -- the end
  have fin : ∀ (y : Int) (w : iST), CG f8Dn f8Dr z2 w → w.1 29 ≤ u.1 29 + (Ob.csM false (Ob.item o 3) + Ob.csM false (Ob.item o 4)) → w.1 32 = 0 → (∀ j, (j = 44 ∨ j = 45 ∨ j = 47) → w.1 j = z2.1 j) → (b = 0 ∧ y = -1 ∨ b = 1 ∧ ((y = -1 ∧ Ob.rdT (Sp.arC (H.env []) (Ob.item o 1) (-1)) (Ob.item o 4) = none) ∨ (VN w y ∧ Ob.wt (Sp.arC (H.env []) (Ob.item o 1) (-1)) (oc w y) ∧ (oc w y).sz ≤ 120 ∧ Ob.rdT (Sp.arC (H.env []) (Ob.item o 1) (-1)) (Ob.item o 4) = some (oc w y)))) → pv_11_isDefinition_120 Q b t y w := by
    intro y w gw w29 w32 wn hy
    have own := rdT_own (E := H.env []) (k := (k : Int)) nq (Ob.item o 4)
    unfold pv_11_isDefinition_120
    intro s1 es1 s2 es2 v7 e7 _
    have gs1 : CG f8Dn f8Dr w s1 := by rw [es1]; exact CG_I gw.1 (by decide) (by decide)
    have gs2 : CG f8Dn f8Dr s1 s2 := by rw [es2]; exact CG_I gs1.1 (by decide) (by decide)
    have gs := gs1.tr gs2
    have gus := (guz.tr gw).tr gs
    have sn : ∀ j, j ≠ 46 → j ≠ 37 → s2.1 j = w.1 j := fun j h1 h2 => by rw [es2, iIc_ne _ _ h2, es1, iIc_ne _ _ h1]
    have s46 : s2.1 46 = y := by rw [es2, iIc_ne _ _ (by decide), es1, iIc_at]
    have s37 : s2.1 37 = -1 := by rw [es2, iIc_at]
    have s2r : s2.2 = w.2 := by rw [es2, es1]; rfl
    have ocs : ∀ x, oc s2 x = oc w x := fun x => oc_same (by rw [s2r]) x
    have s45 : s2.1 45 = x := by rw [sn 45 (by decide) (by decide), wn 45 (by omega)]; exact z45
    have s44 : s2.1 44 = u.1 44 := by rw [sn 44 (by decide) (by decide), wn 44 (by omega)]; exact z44
    have s47 : s2.1 47 = u.1 47 := by rw [sn 47 (by decide) (by decide), wn 47 (by omega)]; exact z47
    have s32 : s2.1 32 = 0 := by rw [sn 32 (by decide) (by decide)]; exact w32
    have s29 : s2.1 29 ≤ u.1 29 + (Ob.csM false (Ob.item o 3) + Ob.csM false (Ob.item o 4)) := by rw [sn 29 (by decide) (by decide)]; exact w29
    have hRs : RdE s2 (H.env []) := ⟨gs.1, hD.mono hT gus (gus.2.2.1 0 (by decide)) (fun k hk => gus.2.2.2 k (lo k hk)), s37, s32, hs0⟩
    have no : (∀ fuel, Sp.RanD H fuel o (Sp.nothing H)) → Q 0 s2 := fun h => hq 0 s2 gus hRs s29 s44 s47 (Or.inl ⟨rfl, h⟩)
    rw [s45] at e7
    rw [e7]
    rcases hor with ⟨q1, q2⟩ | ⟨q1, q2, q3, q4⟩
    · refine ⟨fun _ _ => no (fun fuel => RanD_2 (by rw [hk]; exact q2)), fun zz => absurd q1 zz⟩
    refine ⟨fun zz => by have := q1.1; omega, fun _ => ?_⟩
    have vx2 : VN z2 x := q1.up gz
    have vxs : VN s2 x := (vx2.up gw).up gs
    have ox : oc s2 x = oc v x := by rw [ocs, gw.oc gz.1 vx2.1 vx2.2, ocz]
    have wx : Ob.wt (Sp.arC (H.env []) (Ob.item o 1) (k : Int)) (oc s2 x) := by rw [ox]; exact q2
    have zx : (oc s2 x).sz ≤ 120 := by rw [ox]; exact q3
    have rx : Ob.rdT (Sp.arC (H.env []) (Ob.item o 1) (k : Int)) (Ob.item o 3) = some (oc s2 x) := by rw [ox]; exact q4
    have vn44 : VN s2 (u.1 44) := v44.up gus
    have on : oc s2 (u.1 44) = Ob.item o 1 := by rw [gus.oc hT v44.1 v44.2]; exact e44
    have vts : VN s2 t := vt.up gus
    have ots : oc s2 t = Ob.item o 2 := by rw [gus.oc hT vt.1 vt.2]; exact et
    -- all that is asked of it
    have e153 : ∀ m : Option Ob, (if Ob.len o = 5 then (Ob.rdT (Sp.arC (H.env []) (Ob.item o 1) (k : Int)) (Ob.item o 4)).map some else some none) = some m → (b = 0 ∧ m = none ∧ y = -1 ∨ b = 1 ∧ m = some (oc s2 y) ∧ VN s2 y ∧ Ob.wt (Sp.arC (H.env []) (Ob.item o 1) (-1)) (oc s2 y) ∧ (oc s2 y).sz ≤ 120 ∧ Sp.hasCall (oc s2 y) (Ob.item o 1) = false) → pv_11_isDefinition_153 Q b t s2 := by
      intro m em hm
      have r4 := fun (rr : Sp.Res) (fuel : Nat) => RanD_4 (H := H) (fuel := fuel) (r := rr) hDfH (by rw [hk]; exact rx) (by rw [hk]; exact em)
      unfold Sp.dfOk at r4
      have mb : (b ≠ 0 ↔ m.isSome = true) := by
        rcases hm with ⟨p1, p2, _⟩ | ⟨p1, p2, _⟩
        · rw [p1, p2]; exact ⟨fun zz => absurd rfl zz, fun zz => by cases zz⟩
        · rw [p1, p2]; exact ⟨fun _ => rfl, fun _ => by decide⟩
      have b01 : b = 0 ∨ b = 1 := by omega
      have nok : ∀ (rr : Int) (w' : iST), rr = 0 → CG f8Dn f8Dr s2 w' → w'.2.2 = s2.2.2 → w'.1 = s2.1 ∨ (∀ j, f8i j = false → w'.1 j = s2.1 j) → ¬ Sp.dfOk o (oc s2 x) m → Q 0 w' := fun rr w' _ gw' _ hw' hno => by
        have wj : ∀ j, f8i j = false → w'.1 j = s2.1 j := fun j hj => by
          rcases hw' with q | q
          · rw [q]
          · exact q j hj
        refine hq 0 w' (gus.tr gw') ⟨gw'.1, hRs.2.1.mono gs.1 gw' (wj 0 (by decide)) (fun k hk => gw'.2.2.2 k (lo k hk)), by rw [wj 37 (by decide)]; exact s37, by rw [wj 32 (by decide)]; exact s32, hs0⟩ (by rw [wj 29 (by decide)]; exact s29) (by rw [wj 44 (by decide)]; exact s44) (by rw [wj 47 (by decide)]; exact s47) (Or.inl ⟨rfl, fun fuel => (r4 _ fuel).1 hno rfl⟩)
      unfold pv_11_isDefinition_153
      intro v8 e8 _ v9 e9 _
      rw [s45] at e8
      rw [s44] at e9
      rw [e8, e9]
      refine pc_hasCallOfZ gs.1 vxs wx zx vn44 (fun r1 w1 gw1 cw1 r01 hr1 => ?_)
      rw [on] at hr1
      have G1 : CG f8Dn f8Dr s2 w1 := gw1.mono f80_D f8q_D
      have n1 : w1.1 = s2.1 := funext (fun j => gw1.2.2.1 j rfl)
      refine ⟨fun c _ => nok 0 w1 rfl G1 cw1 (Or.inl n1) (fun hok => c ?_), fun c => ?_⟩
      · have h1 := hok.1
        rcases b01 with b0 | b1
        · rw [b0]
          cases hc : Sp.hasCall (oc s2 x) (Ob.item o 1) with
          | false => exact hr1.mpr hc
          | true => exact absurd b0 (mb.mpr (h1.mp hc))
        · have hc : Sp.hasCall (oc s2 x) (Ob.item o 1) = true := h1.mpr (mb.mp (by omega))
          have : r1 ≠ 0 := fun zz => by rw [hr1.mp zz] at hc; cases hc
          omega
      have c := Decidable.not_not.mp c
      have call : Sp.hasCall (oc s2 x) (Ob.item o 1) = true ↔ m.isSome = true := by
        rw [← mb, ← c]
        exact ⟨(fun hc zz => by rw [hr1.mp zz] at hc; cases hc), fun zz => hr1.t zz⟩
      intro v11 e11 _ v12 e12 _
      rw [n1, s44] at e11
      rw [n1, s45] at e12
      rw [e11, e12]
      have o1 : ∀ j, oc w1 j = oc s2 j := fun j => oc_same cw1 j
      refine pc_isFlat (ar := Sp.arC (H.env []) (Ob.item o 1) (k : Int)) gw1.1 (arC_if nb) (vn44.up gw1) (by rw [o1, on]; exact nq) (vxs.up gw1) (by rw [o1]; exact wx) (by rw [o1]; exact zx) (fun r2 w2 gw2 cw2 hr2 => ?_)
      rw [o1, o1, on] at hr2
      have G2 : CG f8Dn f8Dr s2 w2 := G1.tr (gw2.mono f8i_D f8j_D)
      have cw2' : w2.2.2 = s2.2.2 := cw2.trans cw1
      have n2 : ∀ j, f8i j = false → w2.1 j = s2.1 j := fun j hj => by rw [gw2.2.2.1 j hj, n1]
      have o2 : ∀ j, oc w2 j = oc s2 j := fun j => oc_same cw2' j
      refine ⟨fun c _ => nok 0 w2 rfl G2 cw2' (Or.inr n2) (fun hok => ?_), fun c => ?_⟩
      · have := hr2.f c
        rw [hok.2.2.2] at this
        cases this
      have flat := hr2.t c
      intro v14 e14 _
      rw [n2 45 (by decide), s45] at e14
      rw [e14]
      refine pc_hasVariablesOf (ar := Sp.arC (H.env []) (Ob.item o 1) (k : Int)) G2.1 (vxs.up G2) (by rw [o2]; exact wx) (by rw [o2]; exact zx) (vts.up G2) (fun r3 w3 gw3 cw3 hr3 => ?_)
      rw [o2, o2, ots] at hr3
      have G3 : CG f8Dn f8Dr s2 w3 := G2.tr (gw3.mono f80_D f8q_D)
      have cw3' : w3.2.2 = s2.2.2 := cw3.trans cw2'
      have n3 : ∀ j, f8i j = false → w3.1 j = s2.1 j := fun j hj => by rw [gw3.2.2.1 j rfl]; exact n2 j hj
      have o3 : ∀ j, oc w3 j = oc s2 j := fun j => oc_same cw3' j
      refine ⟨fun c _ => nok 0 w3 rfl G3 cw3' (Or.inr n3) (fun hok => ?_), fun c => ?_⟩
      · have := hr3.f c
        rw [hok.2.1] at this
        cases this
      have vars := hr3.t c
      have good : ∀ w', CG f8Dn f8Dr s2 w' → w'.2.2 = s2.2.2 → (∀ j, f8i j = false → w'.1 j = s2.1 j) → (∀ M, M ∈ m → (Ob.parts M).all (fun x => !Ob.isVar x || Ob.has (Ob.toList (Ob.item o 2)) x) = true ∧ ¬ Sp.hasCall M (Ob.item o 1) = true) → Q 1 w' := fun w' gw' cw' wj hM => by
        have o' : ∀ j, oc w' j = oc s2 j := fun j => oc_same cw' j
        refine hq 1 w' (gus.tr gw') ⟨gw'.1, hRs.2.1.mono gs.1 gw' (wj 0 (by decide)) (fun k hk => gw'.2.2.2 k (lo k hk)), by rw [wj 37 (by decide)]; exact s37, by rw [wj 32 (by decide)]; exact s32, hs0⟩ (by rw [wj 29 (by decide)]; exact s29) (by rw [wj 44 (by decide)]; exact s44) (by rw [wj 47 (by decide)]; exact s47) (Or.inr ⟨rfl, oc s2 x, m, hDfH, by rw [hk]; exact rx, by rw [hk]; exact em, ⟨call, vars, hM, flat⟩, ?_, ?_⟩)
        · rw [wj 45 (by decide), s45, o']
          exact ⟨vxs.up gw', rfl⟩
        · rw [wj 46 (by decide), s46, o']
          rcases hm with ⟨p1, p2, p3⟩ | ⟨p1, p2, p3, _⟩
          · exact Or.inl ⟨p2, p3⟩
          · exact Or.inr ⟨_, p2, p3.up gw', rfl⟩
      refine ⟨fun b0 _ => good w3 G3 cw3' n3 (fun M hM => ?_), fun b0 => ?_⟩
      · rcases hm with ⟨p1, p2, p3⟩ | ⟨p1, p2, p3, _⟩
        · rw [p2] at hM; cases hM
        · omega
      · rcases hm with ⟨p1, p2, p3⟩ | ⟨p1, p2, p3, p4, p5, p6⟩
        · exact absurd p1 b0
        intro v16 e16 _
        rw [n3 46 (by decide), s46] at e16
        rw [e16]
        refine pc_hasVariablesOf (ar := Sp.arC (H.env []) (Ob.item o 1) (-1)) G3.1 (p3.up G3) (by rw [o3]; exact p4) (by rw [o3]; exact p5) (vts.up G3) (fun r4' w4 gw4 cw4 hr4 => ?_)
        rw [o3, o3, ots] at hr4
        have G4 : CG f8Dn f8Dr s2 w4 := G3.tr (gw4.mono f80_D f8q_D)
        have cw4' : w4.2.2 = s2.2.2 := cw4.trans cw3'
        have n4 : ∀ j, f8i j = false → w4.1 j = s2.1 j := fun j hj => by rw [gw4.2.2.1 j rfl]; exact n3 j hj
        refine ⟨fun c _ => nok 0 w4 rfl G4 cw4' (Or.inr n4) (fun hok => ?_), fun c _ => good w4 G4 cw4' n4 (fun M hM => ?_)⟩
        · have := hr4.f c
          rw [(hok.2.2.1 (oc s2 y) (by rw [p2]; rfl)).1] at this
          cases this
        · rw [p2] at hM
          have hM := Option.some.inj hM
          rw [← hM, p6]
          exact ⟨hr4.t c, by decide⟩
    refine ⟨fun b0 => ?_, fun b0 => ?_⟩
    · refine e153 none ?_ (Or.inl ⟨b0, rfl, ?_⟩)
      · rw [if_neg (by omega)]
      · rcases hy with ⟨_, p⟩ | ⟨p, _⟩
        · exact p
        · omega
    · rcases hy with ⟨p, _⟩ | ⟨p, hy⟩
      · exact absurd p b0
      have l5 : Ob.len o = 5 := by omega
      intro v18 e18 _
      rw [s46] at e18
      rw [e18]
      rcases hy with ⟨p1, p2⟩ | ⟨p1, p2, p3, p4⟩
      · refine ⟨fun zz => absurd p1 zz, fun _ _ => ?_⟩
        rw [p2] at own
        cases em : Ob.rdT (Sp.arC (H.env []) (Ob.item o 1) (k : Int)) (Ob.item o 4) with
        | none => exact no (fun fuel => RanD_3 l5 (by rw [hk]; exact em))
        | some M =>
          rw [em] at own
          have own : none = (if Sp.hasCall M (Ob.item o 1) = true then none else some M) := own
          have hc : Sp.hasCall M (Ob.item o 1) = true := by
            cases hc : Sp.hasCall M (Ob.item o 1) with
            | true => rfl
            | false => rw [hc] at own; cases own
          refine no (fun fuel => (RanD_4 (H := H) (m := some M) hDfH (by rw [hk]; exact rx) (by rw [hk, if_pos l5, em]; rfl)).1 (fun hok => ?_) rfl)
          exact (hok.2.2.1 M rfl).2 hc
      · refine ⟨fun _ => ?_, fun zz => absurd (show y ≠ -1 by have := p1.1; omega) zz⟩
        have oy : oc s2 y = oc w y := ocs y
        rw [p4] at own
        cases em : Ob.rdT (Sp.arC (H.env []) (Ob.item o 1) (k : Int)) (Ob.item o 4) with
        | none => rw [em] at own; cases own
        | some M =>
          rw [em] at own
          have own : some (oc w y) = (if Sp.hasCall M (Ob.item o 1) = true then none else some M) := own
          cases hc : Sp.hasCall M (Ob.item o 1) with
          | true => rw [hc] at own; cases own
          | false =>
            rw [hc] at own
            have own : some (oc w y) = some M := own
            have own := Option.some.inj own
            refine e153 (some (oc s2 y)) ?_ (Or.inr ⟨p, rfl, p1.up gs, by rw [oy]; exact p2, by rw [oy]; exact p3, by rw [oy, own]; exact hc⟩)
            rw [if_pos l5, em, oy, own]
            rfl
  refine ⟨fun b0 => fin (-1) z2 (CG.rf gz.1) (by omega) z32 (fun _ _ => rfl) (Or.inl ⟨b0, rfl⟩), fun b0 => ?_⟩
  have b1 : b = 1 := by omega
  refine pc_item gz.1 (va.up guz) (by decide) (fun t4 vt4 et4 => ?_)
  have et4 : oc z2 t4 = Ob.item o 4 := by rw [← eo, ← guz.oc hT va.1 va.2]; exact et4
  have np4 := npr_item 4 o
  obtain ⟨c2a, c2b⟩ := csM_npr false (oc z2 t4)
  have c2b : (oc z2 t4).sz ≤ npr (oc z2 t4) + 1 := c2b
  rw [et4] at c2a c2b
  refine pc_readX (ar := Sp.arC (H.env []) (Ob.item o 1) (-1)) gz.1 hDz (Or.inr ⟨by rw [z37]; exact v44.up guz, by rw [z37, z38, on44]⟩) (arC6 h6 (by decide)) (arC_sy ns hs0) vt4 (by rw [et4]; omega) z32 (by rw [et4]; omega) (fun y w gw w29 w32 hy => ?_)
  rw [et4] at w29 hy
  refine fin y w (gw.mono f8B_D f8W_D) (by omega) w32 (fun j hj => gw.2.2.1 j (by unfold f8B; rw [decide_eq_false (by omega), decide_eq_false (by omega)]; rfl)) (Or.inr ⟨b1, hy⟩)
