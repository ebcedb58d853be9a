-- deps: 7585
/-! the class: a clause becomes two, of what is there -/
theorem pc_negatedY [DecidableEq Ob] {a : Int} {y : Ob} {Q : Int → iST → Prop} {v : iST} {E : Sp.Env} (hT : CT v) (na : NdC v E a) (hv : Vl (Sp.mkNot (oc v a)) y) (hx : ExT v y) (hq : ∀ t w, CG f8B f8W v w → (v.1 32 ≠ 0 → w.1 32 ≠ 0) → NdD w E t → (w.1 32 = 0 → Vl (Sp.mkNot (oc v a)) (oc w t)) → w = v → Q t w) : pv_10_negated a Q v := pc_negatedX hT na hv hx (fun t nt et => hq t v (CG.rf hT) id nt.d (fun _ => by rw [et]; exact hv) rfl)
theorem pc_splitX [DecidableEq Ob] {c wc x : Int} {p rd : Nat} {Q : iST → Prop} {v : iST} {E : Sp.Env} (hT : CT v) (hC : ClW v E c) (hp : (p : Int) < v.2.1 46 c) (nx : NdC v E x) (hs : Sp.splits (oc v x) = true) (h32 : v.1 32 = 0) (hwc : v.1 14 = wc) (hcw : c + 1 = 120 + wc) (w10 : 1 ≤ wc ∧ wc < 10) (h48 : v.2.1 48 c = (rd : Int) + 1) {o : Sp.Out} (hvl : Vl (Sp.splitC ((clC v c).take p) ((clC v c).drop (p + 1)) (oc v x) rd) o) (hox : OuX (ExT v) o)
    (hq : ∀ w a b, OtC (fun j => j ≠ c ∧ j ≠ c + 1 ∧ j ≠ 150) v w → CG f8Pn f8Pr v w → w.1 32 = 0 → w.1 14 = wc + 1 → KpN v w → (ClW w E (c + 1) ∧ clC w (c + 1) = a ∧ w.2.1 48 (c + 1) = (rd : Int) + 1) → (ClW w E c ∧ clC w c = b ∧ w.2.1 48 c = (rd : Int) + 1) → Vl (Sp.splitC ((clC v c).take p) ((clC v c).drop (p + 1)) (oc v x) rd) (some (.inl ((a, rd + 1), (b, rd + 1)))) → w.1 29 = v.1 29 → Q w) : pv_4_split c (p : Int) x Q v := by
  have qn : Ob.not ≠ Ob.quote := Ob.sym_ne (by decide)
  -- the IF within
  have hif : (Sp.ifIn (oc v x)).isCallOf Ob.ifS = true := by
    unfold Sp.splits at hs
    unfold Sp.ifIn
    by_cases c1 : Ob.isCallOf (oc v x) Ob.not = true
    · rw [if_pos c1]
      rw [Bool.or_eq_true, Bool.and_eq_true] at hs
      rcases hs with q | q
      · have := lft_of q
        rw [lft_of c1] at this
        exact absurd this (Ob.sym_ne (by decide))
      · exact q.2
    · rw [if_neg c1]
      rw [Bool.or_eq_true, Bool.and_eq_true] at hs
      exact hs.resolve_right (fun q => c1 q.1)
  obtain ⟨oA, oB, oC, vA, vB, vC, bA, bB, eo⟩ := splitC_inv hvl
  rw [eo] at hox
  have xA : ExT v oA := hox.1 oA (foldl_putL_in _ _ _ (Or.inr (by simp)))
  have xB : ExT v oB := hox.1 oB (foldl_putL_in _ _ _ (Or.inr (by simp)))
  have xC : ExT v oC := hox.2 oC (foldl_putL_in _ _ _ (Or.inr (by simp)))
  -- the items
  have go : ∀ (r1 y0 : Int), NdC v E y0 → oc v y0 = Sp.ifIn (oc v x) → bq r1 (Ob.isCallOf (oc v x) Ob.not) → pv_4_split_30 Q c (p : Int) r1 y0 v := by
    intro r1 y0 ny ey hr1
    unfold pv_4_split_30
    refine pc_it hT ny (by rw [ey]; exact hif) ifq' (arOf_ifS E) (by decide) (by decide) (fun t1 nt1 et1 => pc_it hT ny (by rw [ey]; exact hif) ifq' (arOf_ifS E) (by decide) (by decide) (fun t2 nt2 et2 => pc_it hT ny (by rw [ey]; exact hif) ifq' (arOf_ifS E) (by decide) (by decide) (fun t3 nt3 et3 => ?_)))
    have et1 : oc v t1 = Ob.item (Sp.ifIn (oc v x)) 1 := by rw [et1, ey]; rfl
    have et2 : oc v t2 = Ob.item (Sp.ifIn (oc v x)) 2 := by rw [et2, ey]; rfl
    have et3 : oc v t3 = Ob.item (Sp.ifIn (oc v x)) 3 := by rw [et3, ey]; rfl
    intro n5 en5 _
    rw [en5, hwc]
    refine ⟨fun _ => ?_, fun z => by omega⟩
    intro n6 en6 _ _ _
    rw [en6]
    refine pc_negatedY hT nt1 (by rw [et1]; exact vA) xA (fun a1 w1 gw1 wd1 na1 hv1 ew1 => ?_)
    -- the last of it
    have last : ∀ w3 o3 A B, (w3.1 29 = v.1 29 ∧ w3.1 32 = 0) → CG f8Pn f8Pr v w3 → OtC (fun j => j ≠ c + 1) v w3 → w3.1 14 = wc → KpN v w3 → (w3.1 32 = 0 → ClW w3 E (c + 1) ∧ clC w3 (c + 1) = ((clC v c).take p ++ [A, B] ++ (clC v c).drop (p + 1)).foldl Sp.putL [] ∧ Sp.bnd (((clC v c).take p ++ [A, B] ++ (clC v c).drop (p + 1)).foldl Sp.putL []) = true ∧ w3.2.1 48 (c + 1) = (rd : Int) + 1 ∧ Vl (Sp.mkNot (oc v t1)) A ∧ Vl (if Ob.isCallOf (oc v x) Ob.not then Sp.mkNot (oc v t2) else Sp.ret (oc v t2)) B ∧ Vl (if Ob.isCallOf (oc v x) Ob.not then Sp.mkNot (oc v t3) else Sp.ret (oc v t3)) (oc w3 o3)) → NdD w3 E o3 → pv_4_split_157 Q c 150 c (p : Int) t1 o3 w3 := by
      intro w3 o3 A B dd3 g3 ot3 h14 kp hx n3
      have w32 := dd3.2
      obtain ⟨hX1, hX2, hX3, hX4, hv1, hv2, hv3⟩ := hx w32
      obtain ⟨hC3, eC3, h483⟩ := ot3.cl hT g3 (by omega) hC
      obtain ⟨nt1w, et1w⟩ := nt1.up hT g3
      have n3' := n3.2.2 w32
      unfold pv_4_split_157
      refine pc_fillSplit (f := c) (m := 150) g3.1 (by omega) hC3 (by rw [(ot3 c (by omega)).1]; exact hp) nt1w n3' w32 (fun y ky yn hWy ey' hby h48y => ?_) (fun y gy y32 hby oy => ?_)
      rotate_left
      · exfalso
        have e3 : oc w3 o3 = oC := hv3.det (by rw [et3]; exact vC)
        rw [eC3, et1w, et1, e3, bB] at hby
        cases hby
      refine pc_copy1 (E := E) ky.1.1 (a := 150) (c := c) (by omega) hWy (fun z kz zn hWz ez h48z => ?_)
      intro n13 en13 _ _ z2 ez2
      have gz2 : CG f8Pn f8Pr z z2 := by rw [ez2]; exact CG_I kz.1.1 (by decide) (by decide)
      have z2r : z2.2 = z.2 := by rw [ez2]; rfl
      have z2n : ∀ k, k ≠ 14 → z2.1 k = w3.1 k := fun k hk => by rw [ez2]; show (if k = 14 then _ else z.1 k) = _; rw [if_neg hk, zn, yn]
      have z14 : z2.1 14 = wc + 1 := by rw [ez2]; show n13 + 1 = _; rw [en13, zn, yn, h14]
      have g7 : CG f8Pn f8Pr w3 z2 := ((ky.1.mono f80_P f8C_P).tr (kz.1.mono f80_P f8C_P)).tr gz2
      have ot7 : OtC (fun j => j ≠ c ∧ j ≠ 150) w3 z2 := ((ky.ot (fun j hj => hj.2)).tr (kz.ot (fun j hj => hj.1))).tr (OtC.of (fun k _ _ => by rw [z2r]))
      obtain ⟨hX1', eX1', h48'⟩ := ot7.cl g3.1 g7 (c := c + 1) ⟨by omega, by omega⟩ hX1
      obtain ⟨hWz2, eWz2⟩ := hWz.up kz.1.1 gz2 (fun k _ _ => by rw [z2r])
      have kp2 : KpN w3 z2 := ⟨z2n 15 (by decide), z2n 13 (by decide), z2n 16 (by decide), z2n 26 (by decide), z2n 28 (by decide), by rw [z2r, kz.1.2.2.2 52 (by decide), ky.1.2.2.2 52 (by decide)]⟩
      rw [eC3, et1w] at ey'
      rw [ey'] at hby
      refine hq z2 (clC w3 (c + 1)) (clC y 150) ((ot3.sub (fun j hj => hj.2.1)).tr (ot7.sub (fun j hj => ⟨hj.1, hj.2.2⟩))) (g3.tr g7) (by rw [z2n 32 (by decide)]; exact w32) z14 (kp.tr kp2) ⟨hX1', eX1', by rw [h48']; exact hX4⟩ ⟨hWz2, by rw [eWz2, ez], ?_⟩ ?_ ?_
      · rw [z2r, h48z, h48y, h483]; exact h48
      · rw [hX2, ey']
        unfold Sp.splitC
        rw [← et1, ← et2, ← et3]
        exact Vl.bd hv2 (Vl.bd hv3 (Vl.bd hv1 (Vl.bd (vl_bnd hX3) (Vl.bd (vl_bnd hby) (Vl.ret _)))))
      · rw [z2n 29 (by decide)]; exact dd3.1
    -- the first of the two
    have first : ∀ w2 a2, w2 = v → CG f8B f8W w1 w2 → (w1.1 32 ≠ 0 → w2.1 32 ≠ 0) → NdD w2 E a2 → (w2.1 32 = 0 → Vl (if Ob.isCallOf (oc v x) Ob.not then Sp.mkNot (oc v t2) else Sp.ret (oc v t2)) (oc w2 a2)) → pv_4_split_126 Q c (p : Int) r1 t1 t3 (120 + wc) c (p : Int) a1 a2 w2 := by
      intro w2 a2 ew2 gw2 wd2 na2 hv2
      have g12 : CG f8B f8W v w2 := gw1.tr gw2
      have gv2 : CG f8Pn f8Pr v w2 := g12.mono f8B_P f8W_P
      have kp12 : KpN v w2 := g12.kp (by decide)
      have w32 : w2.1 32 = 0 := by rw [ew2]; exact h32
      have w132 : w1.1 32 = 0 := not0 wd2 w32
      obtain ⟨na1', ea1'⟩ := (na1.2.2 w132).up gw1.1 gw2
      have na2' := na2.2.2 w32
      obtain ⟨hC2, eC2⟩ := hC.up hT g12 (f8B_rows g12)
      have h482 : w2.2.1 48 c = (rd : Int) + 1 := by rw [f8B_rows g12 48 (by decide) (by decide)]; exact h48
      unfold pv_4_split_126
      refine pc_fillSplit (f := c) (m := 120 + wc) g12.1 (by omega) hC2 (by rw [f8B_rows g12 46 (by decide) (by decide)]; exact hp) na1' na2' w32 (fun y ky yn hWy ey' hby h48y => ?_) (fun y gy y32 hby oy => ?_)
      rotate_left
      · exfalso
        have e1 : oc w1 a1 = oA := (hv1 w132).det (by rw [et1]; exact vA)
        have e2 : oc w2 a2 = oB := (hv2 w32).det (by rw [et2]; exact vB)
        rw [eC2, ea1', e1, e2, bA] at hby
        cases hby
      rw [eC2, ea1'] at ey'
      rw [ey'] at hby
      have gvy : CG f8Pn f8Pr v y := gv2.tr (ky.1.mono f80_P f8C_P)
      have ec1 : (120 + wc : Int) = c + 1 := by omega
      rw [ec1] at hWy ey' h48y ky
      have oty : OtC (fun j => j ≠ c + 1) v y := (OtC.of (f8B_rows g12)).tr (ky.ot (fun j hj => hj))
      have y14 : y.1 14 = wc := by rw [yn, g12.2.2.1 14 (by decide)]; exact hwc
      have kpy : KpN v y := kp12.tr (ky.1.kp (by decide))
      obtain ⟨nt3y, et3y⟩ := nt3.up hT gvy
      have y48 : y.2.1 48 (c + 1) = (rd : Int) + 1 := by rw [h48y]; exact h482
      have ddy : y.1 29 = v.1 29 ∧ y.1 32 = 0 := ⟨by rw [yn, ew2], by rw [yn]; exact w32⟩
      refine ⟨fun z => ?_, fun z => ?_⟩
      · refine last y t3 (oc w1 a1) (oc w2 a2) ddy gvy oty y14 kpy (fun _ => ⟨hWy, ey', hby, y48, hv1 w132, hv2 w32, ?_⟩) nt3y.d
        rw [if_neg (by rw [hr1.f z]; decide), et3y]
        exact Vl.ret _
      · refine pc_negatedY gvy.1 nt3y (y := oC) (by rw [et3y, et3]; rw [if_pos (hr1.t z)] at vC; exact vC) (xC.up hT gvy) (fun o3 w3 gw3 wd3 n3 hv3 ew3 => ?_)
        have otw := oty.tr (OtC.of (P := fun j => j ≠ c + 1) (f8B_rows gw3))
        refine last w3 o3 (oc w1 a1) (oc w2 a2) (by rw [ew3]; exact ddy) (gvy.tr (gw3.mono f8B_P f8W_P)) otw (by rw [gw3.2.2.1 14 (by decide)]; exact y14) (kpy.tr (gw3.kp (by decide))) (fun q32 => ?_) n3
        obtain ⟨q1, q2⟩ := hWy.up ky.1.1 gw3 (f8B_rows gw3)
        refine ⟨q1, by rw [q2]; exact ey', hby, by rw [f8B_rows gw3 48 (by decide) (by decide)]; exact y48, hv1 w132, hv2 w32, ?_⟩
        have := hv3 q32
        rw [et3y] at this
        rw [if_pos (hr1.t z)]
        exact this
    obtain ⟨nt2w, et2w⟩ := nt2.up hT gw1
    refine ⟨fun z => ?_, fun z => ?_⟩
    · refine first w1 t2 ew1 (CG.rf gw1.1) id nt2w.d (fun _ => ?_)
      rw [if_neg (by rw [hr1.f z]; decide), et2w]
      exact Vl.ret _
    · refine pc_negatedY gw1.1 nt2w (y := oB) (by rw [et2w, et2]; rw [if_pos (hr1.t z)] at vB; exact vB) (xB.up hT gw1) (fun a2 w2 gw2 wd2 na2 hv2 ew2 => first w2 a2 (by rw [ew2]; exact ew1) gw2 wd2 na2 (fun q => ?_))
      have := hv2 q
      rw [et2w] at this
      rw [if_pos (hr1.t z)]
      exact this
  unfold pv_4_split
  refine pc_isCallK 16 hT nx.1 (by decide) (by decide) (o := Ob.not) rfl (fun r1 hr1 => ⟨fun z => go r1 x nx ?_ hr1, fun z => ?_⟩)
  · unfold Sp.ifIn
    rw [if_neg (by rw [hr1.f z]; decide)]
  · have hn := hr1.t z
    refine pc_it hT nx hn qn (arOf_not E) (by decide) (by decide) (fun y0 ny ey => go r1 y0 ny ?_ hr1)
    unfold Sp.ifIn
    rw [if_pos hn]
    exact ey
