-- deps: 7581
/-! the class: a clause becomes two, where the room may be full -/
def f8Zp (k : Nat) : Bool := f8Pn k || decide (k = 28)
theorem f8Pn_Zp [DecidableEq Ob] : ∀ k, f8Zp k = false → f8Pn k = false := fun k h => by unfold f8Zp at h; exact (Bool.or_eq_false_iff.mp h).1
theorem vl_bnd [DecidableEq Ob] {l : List Ob} (h : Sp.bnd l = true) : Vl (Sp.bounded l) l := by
  rcases dt_bounded l with ⟨_, q⟩ | ⟨q, _⟩
  · exact ⟨0, fun s => q s⟩
  · rw [h] at q; cases q
/-- what stays -/
def KpN [DecidableEq Ob] (u v : iST) : Prop := v.1 15 = u.1 15 ∧ v.1 13 = u.1 13 ∧ v.1 16 = u.1 16 ∧ v.1 26 = u.1 26 ∧ v.1 28 = u.1 28 ∧ v.2.1 52 = u.2.1 52
theorem KpN.rf [DecidableEq Ob] (u : iST) : KpN u u := ⟨rfl, rfl, rfl, rfl, rfl, rfl⟩
theorem KpN.tr [DecidableEq Ob] {u v w : iST} (h : KpN u v) (g : KpN v w) : KpN u w := ⟨g.1.trans h.1, g.2.1.trans h.2.1, g.2.2.1.trans h.2.2.1, g.2.2.2.1.trans h.2.2.2.1, g.2.2.2.2.1.trans h.2.2.2.2.1, g.2.2.2.2.2.trans h.2.2.2.2.2⟩
theorem CG.kp [DecidableEq Ob] {n r : Nat → Bool} {u v : iST} (g : CG n r u v) (h : n 15 = false ∧ n 13 = false ∧ n 16 = false ∧ n 26 = false ∧ n 28 = false ∧ r 52 = false) : KpN u v := ⟨g.2.2.1 15 h.1, g.2.2.1 13 h.2.1, g.2.2.1 16 h.2.2.1, g.2.2.1 26 h.2.2.2.1, g.2.2.1 28 h.2.2.2.2.1, g.2.2.2 52 h.2.2.2.2.2⟩
/-- what stays when the work fails -/
def DdK [DecidableEq Ob] (v w : iST) : Prop := CG f8Zp f8Pr v w ∧ w.1 15 = v.1 15 ∧ w.1 13 = v.1 13 ∧ w.1 26 = v.1 26 ∧ w.2.1 52 = v.2.1 52 ∧ OtC (fun j => j < 120) v w
theorem DdK.rf [DecidableEq Ob] {v : iST} (h : CT v) : DdK v v := ⟨CG.rf h, rfl, rfl, rfl, rfl, OtC.rf⟩
theorem DdK.tr [DecidableEq Ob] {u v w : iST} (h : DdK u v) (g : DdK v w) : DdK u w := ⟨h.1.tr g.1, g.2.1.trans h.2.1, g.2.2.1.trans h.2.2.1, g.2.2.2.1.trans h.2.2.2.1, g.2.2.2.2.1.trans h.2.2.2.2.1, h.2.2.2.2.2.tr g.2.2.2.2.2⟩
theorem CG.ddk [DecidableEq Ob] {n r : Nat → Bool} {u v : iST} (g : CG n r u v) (hn : ∀ k, f8Zp k = false → n k = false) (hr : ∀ k, f8Pr k = false → r k = false) (h : n 15 = false ∧ n 13 = false ∧ n 26 = false ∧ r 52 = false) (o : OtC (fun j => j < 120) u v) : DdK u v := ⟨g.mono hn hr, g.2.2.1 15 h.1, g.2.2.1 13 h.2.1, g.2.2.1 26 h.2.2.1, g.2.2.2 52 h.2.2.2, o⟩
theorem OtK.c [DecidableEq Ob] {m : Int} {u v : iST} (h : OtK m u v) (hm : 120 ≤ m) : OtC (fun j => j < 120) u v := fun j hj => h j (by have hj : j < 120 := hj; omega)
theorem f8B_Zp [DecidableEq Ob] : ∀ k, f8Zp k = false → f8B k = false := fun k h => f8B_P k (f8Pn_Zp k h)
theorem f8T_Zp [DecidableEq Ob] : ∀ k, f8Zp k = false → f8T k = false := fun k h => f8T_P k (f8Pn_Zp k h)
theorem f80_Zp [DecidableEq Ob] : ∀ k, f8Zp k = false → f80 k = false := fun _ _ => rfl
/-- a number is set -/
theorem ddk_I [DecidableEq Ob] {k : Nat} {x : Int} {u w : iST} (hT : CT u) (e : w = iI u k x) (hk : f8Zp k = true) (h29 : k ≠ 29) (h : k ≠ 15 ∧ k ≠ 13 ∧ k ≠ 26) : DdK u w := by
  rw [e]
  exact ⟨CG_I hT h29 hk, iIc_ne _ _ h.1.symm, iIc_ne _ _ h.2.1.symm, iIc_ne _ _ h.2.2.symm, rfl, OtC.of (fun k _ _ => rfl)⟩
theorem pc_splitN [DecidableEq Ob] {c wc x : Int} {p rd : Nat} {Q : iST → Prop} {v : iST} {E : Sp.Env} (hT : CT v) (hC : ClW v E c) (hp : (p : Int) < v.2.1 46 c) (nx : NdC v E x) (hs : Sp.splits (oc v x) = true) (h32 : v.1 32 = 0) (hwc : v.1 14 = wc) (hcw : c + 1 = 120 + wc) (w10 : 1 ≤ wc ∧ wc < 10) (h48 : v.2.1 48 c = (rd : Int) + 1)
    (hq : ∀ w a b, OtC (fun j => j ≠ c ∧ j ≠ c + 1 ∧ j ≠ 150) v w → CG f8Pn f8Pr v w → w.1 32 = 0 → w.1 14 = wc + 1 → KpN v w → (ClW w E (c + 1) ∧ clC w (c + 1) = a ∧ w.2.1 48 (c + 1) = (rd : Int) + 1) → (ClW w E c ∧ clC w c = b ∧ w.2.1 48 c = (rd : Int) + 1) → Vl (Sp.splitC ((clC v c).take p) ((clC v c).drop (p + 1)) (oc v x) rd) (some (.inl ((a, rd + 1), (b, rd + 1)))) → Q w)
    (hbad : ∀ w, DdK v w → w.1 32 ≠ 0 → Q w) : pv_4_split c (p : Int) x Q v := by
  have qn : Ob.not ≠ Ob.quote := Ob.sym_ne (by decide)
  -- the IF within
  have hif : (Sp.ifIn (oc v x)).isCallOf Ob.ifS = true := by
    unfold Sp.splits at hs
    unfold Sp.ifIn
    by_cases c1 : Ob.isCallOf (oc v x) Ob.not = true
    · rw [if_pos c1]
      rw [Bool.or_eq_true, Bool.and_eq_true] at hs
      rcases hs with q | q
      · have := lft_of q
        rw [lft_of c1] at this
        exact absurd this (Ob.sym_ne (by decide))
      · exact q.2
    · rw [if_neg c1]
      rw [Bool.or_eq_true, Bool.and_eq_true] at hs
      exact hs.resolve_right (fun q => c1 q.1)
  -- when work has failed
  have c120 : 120 ≤ c := by omega
  have ddC : ∀ {m : Int} {s w : iST}, CG f80 f8C s w → OtK m s w → 120 ≤ m → DdK s w := fun {m s w} g o hm => g.ddk f80_Zp f8C_P (by decide) (o.c hm)
  have ddB : ∀ {s w : iST}, CG f8B f8W s w → DdK s w := fun {s w} g => g.ddk f8B_Zp f8W_P (by decide) (OtC.of (f8B_rows g))
  have d157 : ∀ w a b, DdK v w → w.1 32 ≠ 0 → pv_4_split_157 Q c 150 c (p : Int) a b w := by
    intro w a b gw w32
    unfold pv_4_split_157
    refine pc_fillSplitD gw.1.1 w32 (fun y gy oy => pc_copyD gy.1 (fun z gz oz => ?_))
    intro n13 en13 _ _ z2 ez2
    have g3 : DdK z z2 := ddk_I gz.1 ez2 (by decide) (by decide) (by decide)
    refine hbad z2 (((gw.tr (ddC gy oy (by decide))).tr (ddC gz oz c120)).tr g3) ?_
    rw [ez2, iIc_ne _ _ (by decide), gz.2.2.1 32 rfl, gy.2.2.1 32 rfl]
    exact w32
  have d126 : ∀ w r1 a b test no, NdC v E no → DdK v w → w.1 32 ≠ 0 → pv_4_split_126 Q c (p : Int) r1 test no (120 + wc) c (p : Int) a b w := by
    intro w r1 a b test no nno gw w32
    unfold pv_4_split_126
    refine pc_fillSplitD gw.1.1 w32 (fun y gy oy => ?_)
    have gvy : DdK v y := gw.tr (ddC gy oy (by omega))
    have y32 : y.1 32 ≠ 0 := by rw [gy.2.2.1 32 rfl]; exact w32
    refine ⟨fun _ => d157 y _ _ gvy y32, fun _ => ?_⟩
    refine pc_negatedN gvy.1.1 (nno.up hT gvy.1).1 (fun o z gz zd nt hv => ?_)
    exact d157 z _ _ (gvy.tr (ddB gz)) (zd y32)
  -- the items
  have go : ∀ (r1 y0 : Int), NdC v E y0 → oc v y0 = Sp.ifIn (oc v x) → bq r1 (Ob.isCallOf (oc v x) Ob.not) → pv_4_split_30 Q c (p : Int) r1 y0 v := by
    intro r1 y0 ny ey hr1
    unfold pv_4_split_30
    refine pc_it hT ny (by rw [ey]; exact hif) ifq' (arOf_ifS E) (by decide) (by decide) (fun t1 nt1 et1 => pc_it hT ny (by rw [ey]; exact hif) ifq' (arOf_ifS E) (by decide) (by decide) (fun t2 nt2 et2 => pc_it hT ny (by rw [ey]; exact hif) ifq' (arOf_ifS E) (by decide) (by decide) (fun t3 nt3 et3 => ?_)))
    have et1 : oc v t1 = Ob.item (Sp.ifIn (oc v x)) 1 := by rw [et1, ey]; rfl
    have et2 : oc v t2 = Ob.item (Sp.ifIn (oc v x)) 2 := by rw [et2, ey]; rfl
    have et3 : oc v t3 = Ob.item (Sp.ifIn (oc v x)) 3 := by rw [et3, ey]; rfl
    intro n5 en5 _
    rw [en5, hwc]
    refine ⟨fun _ => ?_, fun z => by omega⟩
    intro n6 en6 _ _ _
    rw [en6]
    refine pc_negatedN hT nt1 (fun a1 w1 gw1 wd1 na1 hv1 => ?_)
    -- the last of it
    have last : ∀ w3 o3 A B, DdK v w3 → CG f8Pn f8Pr v w3 → OtC (fun j => j ≠ c + 1) v w3 → w3.1 14 = wc → KpN v w3 → (w3.1 32 = 0 → ClW w3 E (c + 1) ∧ clC w3 (c + 1) = ((clC v c).take p ++ [A, B] ++ (clC v c).drop (p + 1)).foldl Sp.putL [] ∧ Sp.bnd (((clC v c).take p ++ [A, B] ++ (clC v c).drop (p + 1)).foldl Sp.putL []) = true ∧ w3.2.1 48 (c + 1) = (rd : Int) + 1 ∧ Vl (Sp.mkNot (oc v t1)) A ∧ Vl (if Ob.isCallOf (oc v x) Ob.not then Sp.mkNot (oc v t2) else Sp.ret (oc v t2)) B ∧ Vl (if Ob.isCallOf (oc v x) Ob.not then Sp.mkNot (oc v t3) else Sp.ret (oc v t3)) (oc w3 o3)) → NdD w3 E o3 → pv_4_split_157 Q c 150 c (p : Int) t1 o3 w3 := by
      intro w3 o3 A B dd3 g3 ot3 h14 kp hx n3
      by_cases w32 : w3.1 32 = 0
      rotate_left
      · exact d157 w3 _ _ dd3 w32
      obtain ⟨hX1, hX2, hX3, hX4, hv1, hv2, hv3⟩ := hx w32
      obtain ⟨hC3, eC3, h483⟩ := ot3.cl hT g3 (by omega) hC
      obtain ⟨nt1w, et1w⟩ := nt1.up hT g3
      have n3' := n3.2.2 w32
      unfold pv_4_split_157
      refine pc_fillSplit (f := c) (m := 150) g3.1 (by omega) hC3 (by rw [(ot3 c (by omega)).1]; exact hp) nt1w n3' w32 (fun y ky yn hWy ey' hby h48y => ?_) (fun y gy y32 hby oy => ?_)
      rotate_left
      · refine pc_copyD gy.1 (fun z gz oz => ?_)
        intro n13 en13 _ _ z2 ez2
        have g5 : DdK z z2 := ddk_I gz.1 ez2 (by decide) (by decide) (by decide)
        refine hbad z2 (((dd3.tr (gy.ddk f8T_Zp f8C_P (by decide) (oy.c (by decide)))).tr (ddC gz oz c120)).tr g5) ?_
        rw [ez2, iIc_ne _ _ (by decide), gz.2.2.1 32 rfl]; exact y32
      refine pc_copy1 (E := E) ky.1.1 (a := 150) (c := c) (by omega) hWy (fun z kz zn hWz ez h48z => ?_)
      intro n13 en13 _ _ z2 ez2
      have gz2 : CG f8Pn f8Pr z z2 := by rw [ez2]; exact CG_I kz.1.1 (by decide) (by decide)
      have z2r : z2.2 = z.2 := by rw [ez2]; rfl
      have z2n : ∀ k, k ≠ 14 → z2.1 k = w3.1 k := fun k hk => by rw [ez2]; show (if k = 14 then _ else z.1 k) = _; rw [if_neg hk, zn, yn]
      have z14 : z2.1 14 = wc + 1 := by rw [ez2]; show n13 + 1 = _; rw [en13, zn, yn, h14]
      have g7 : CG f8Pn f8Pr w3 z2 := ((ky.1.mono f80_P f8C_P).tr (kz.1.mono f80_P f8C_P)).tr gz2
      have ot7 : OtC (fun j => j ≠ c ∧ j ≠ 150) w3 z2 := ((ky.ot (fun j hj => hj.2)).tr (kz.ot (fun j hj => hj.1))).tr (OtC.of (fun k _ _ => by rw [z2r]))
      obtain ⟨hX1', eX1', h48'⟩ := ot7.cl g3.1 g7 (c := c + 1) ⟨by omega, by omega⟩ hX1
      obtain ⟨hWz2, eWz2⟩ := hWz.up kz.1.1 gz2 (fun k _ _ => by rw [z2r])
      have kp2 : KpN w3 z2 := ⟨z2n 15 (by decide), z2n 13 (by decide), z2n 16 (by decide), z2n 26 (by decide), z2n 28 (by decide), by rw [z2r, kz.1.2.2.2 52 (by decide), ky.1.2.2.2 52 (by decide)]⟩
      rw [eC3, et1w] at ey'
      rw [ey'] at hby
      refine hq z2 (clC w3 (c + 1)) (clC y 150) ((ot3.sub (fun j hj => hj.2.1)).tr (ot7.sub (fun j hj => ⟨hj.1, hj.2.2⟩))) (g3.tr g7) (by rw [z2n 32 (by decide)]; exact w32) z14 (kp.tr kp2) ⟨hX1', eX1', by rw [h48']; exact hX4⟩ ⟨hWz2, by rw [eWz2, ez], ?_⟩ ?_
      · rw [z2r, h48z, h48y, h483]; exact h48
      · rw [hX2, ey']
        unfold Sp.splitC
        rw [← et1, ← et2, ← et3]
        exact Vl.bd hv2 (Vl.bd hv3 (Vl.bd hv1 (Vl.bd (vl_bnd hX3) (Vl.bd (vl_bnd hby) (Vl.ret _)))))
    -- the first of the two
    have first : ∀ w2 a2, CG f8B f8W w1 w2 → (w1.1 32 ≠ 0 → w2.1 32 ≠ 0) → NdD w2 E a2 → (w2.1 32 = 0 → Vl (if Ob.isCallOf (oc v x) Ob.not then Sp.mkNot (oc v t2) else Sp.ret (oc v t2)) (oc w2 a2)) → pv_4_split_126 Q c (p : Int) r1 t1 t3 (120 + wc) c (p : Int) a1 a2 w2 := by
      intro w2 a2 gw2 wd2 na2 hv2
      have g12 : CG f8B f8W v w2 := gw1.tr gw2
      have gv2 : CG f8Pn f8Pr v w2 := g12.mono f8B_P f8W_P
      have kp12 : KpN v w2 := g12.kp (by decide)
      by_cases w32 : w2.1 32 = 0
      rotate_left
      · exact d126 w2 _ _ _ _ _ nt3 (ddB g12) w32
      have w132 : w1.1 32 = 0 := not0 wd2 w32
      obtain ⟨na1', ea1'⟩ := (na1.2.2 w132).up gw1.1 gw2
      have na2' := na2.2.2 w32
      obtain ⟨hC2, eC2⟩ := hC.up hT g12 (f8B_rows g12)
      have h482 : w2.2.1 48 c = (rd : Int) + 1 := by rw [f8B_rows g12 48 (by decide) (by decide)]; exact h48
      unfold pv_4_split_126
      refine pc_fillSplit (f := c) (m := 120 + wc) g12.1 (by omega) hC2 (by rw [f8B_rows g12 46 (by decide) (by decide)]; exact hp) na1' na2' w32 (fun y ky yn hWy ey' hby h48y => ?_) (fun y gy y32 hby oy => ?_)
      rotate_left
      · have gvy : DdK v y := (ddB g12).tr (gy.ddk f8T_Zp f8C_P (by decide) (oy.c (by omega)))
        refine ⟨fun _ => d157 y _ _ gvy y32, fun _ => ?_⟩
        refine pc_negatedN gvy.1.1 (nt3.up hT gvy.1).1 (fun o z gz zd nt hv => ?_)
        exact d157 z _ _ (gvy.tr (ddB gz)) (zd y32)
      rw [eC2, ea1'] at ey'
      rw [ey'] at hby
      have gvy : CG f8Pn f8Pr v y := gv2.tr (ky.1.mono f80_P f8C_P)
      have ec1 : (120 + wc : Int) = c + 1 := by omega
      rw [ec1] at hWy ey' h48y ky
      have oty : OtC (fun j => j ≠ c + 1) v y := (OtC.of (f8B_rows g12)).tr (ky.ot (fun j hj => hj))
      have y14 : y.1 14 = wc := by rw [yn, g12.2.2.1 14 (by decide)]; exact hwc
      have kpy : KpN v y := kp12.tr (ky.1.kp (by decide))
      obtain ⟨nt3y, et3y⟩ := nt3.up hT gvy
      have y48 : y.2.1 48 (c + 1) = (rd : Int) + 1 := by rw [h48y]; exact h482
      have ddy : DdK v y := (ddB g12).tr (ddC ky.1 ky.ok (by omega))
      refine ⟨fun z => ?_, fun z => ?_⟩
      · refine last y t3 (oc w1 a1) (oc w2 a2) ddy gvy oty y14 kpy (fun _ => ⟨hWy, ey', hby, y48, hv1 w132, hv2 w32, ?_⟩) nt3y.d
        rw [if_neg (by rw [hr1.f z]; decide), et3y]
        exact Vl.ret _
      · refine pc_negatedN gvy.1 nt3y (fun o3 w3 gw3 wd3 n3 hv3 => ?_)
        have otw := oty.tr (OtC.of (P := fun j => j ≠ c + 1) (f8B_rows gw3))
        refine last w3 o3 (oc w1 a1) (oc w2 a2) (ddy.tr (ddB gw3)) (gvy.tr (gw3.mono f8B_P f8W_P)) otw (by rw [gw3.2.2.1 14 (by decide)]; exact y14) (kpy.tr (gw3.kp (by decide))) (fun q32 => ?_) n3
        obtain ⟨q1, q2⟩ := hWy.up ky.1.1 gw3 (f8B_rows gw3)
        refine ⟨q1, by rw [q2]; exact ey', hby, by rw [f8B_rows gw3 48 (by decide) (by decide)]; exact y48, hv1 w132, hv2 w32, ?_⟩
        have := hv3 q32
        rw [et3y] at this
        rw [if_pos (hr1.t z)]
        exact this
    obtain ⟨nt2w, et2w⟩ := nt2.up hT gw1
    refine ⟨fun z => ?_, fun z => ?_⟩
    · refine first w1 t2 (CG.rf gw1.1) id nt2w.d (fun _ => ?_)
      rw [if_neg (by rw [hr1.f z]; decide), et2w]
      exact Vl.ret _
    · refine pc_negatedN gw1.1 nt2w (fun a2 w2 gw2 wd2 na2 hv2 => first w2 a2 gw2 wd2 na2 (fun q => ?_))
      have := hv2 q
      rw [et2w] at this
      rw [if_pos (hr1.t z)]
      exact this
  unfold pv_4_split
  refine pc_isCallK 16 hT nx.1 (by decide) (by decide) (o := Ob.not) rfl (fun r1 hr1 => ⟨fun z => go r1 x nx ?_ hr1, fun z => ?_⟩)
  · unfold Sp.ifIn
    rw [if_neg (by rw [hr1.f z]; decide)]
  · have hn := hr1.t z
    refine pc_it hT nx hn qn (arOf_not E) (by decide) (by decide) (fun y0 ny ey => go r1 y0 ny ?_ hr1)
    unfold Sp.ifIn
    rw [if_pos hn]
    exact ey
