/-! the class: conclude, run -/
theorem HW.hj {x : Int} {b u : iST} (h : HW x b u) : HJ u := ⟨h.2.1, fun z => absurd h.2.2.2.2.2.1 z⟩
theorem HW.e43 {x : Int} {b u : iST} (h : HW x b u) : u.1 43 = b.1 43 := h.2.2.2.2.2.2.2.1.2.1
theorem HW.e42 {x : Int} {b u : iST} (h : HW x b u) : u.1 42 = b.1 42 := h.2.2.2.2.2.2.2.1.1
theorem j_conclude11 {x m : Int} {b u : iST} {Q : Int → iST → Prop} (hm : m = b.1 29) (h : HW x b u) (bJ : HJ0 b) (hS : SuOk b) (hb : b.1 32 = 0) (hx : x < b.1 29) (hD : DoOk x b) (hF : eL u x = 22 → u.1 32 = 0 → u.1 12 = -1 → CV (fun c => LF u c ∨ c = u.2.1 57 0) u) (hq : ∀ r v, HJ v → v.1 43 = b.1 43 → v.1 42 = b.1 42 → Q r v) : v_11_conclude x m Q u := by
  subst hm
  have C := h.1
  have el : eL u x = eL b x := (C.el hx).1
  have a8 := h.2.2.2.2.2.2.2.1
  have a9 := h.2.2.2.2.2.2.2.2
  have bB := bJ.2.1
  have bk := bB.2.2.2.1
  have b44 := bB.k44
  have hS1 := hS.1
  -- a theorem is taken, a function is taken, or neither
  have k190 : ∀ v, RG (50 :: mS) mR u v → HJ v → (eL u x = 21 ∨ eL u x = 22) → v_11_conclude_190 Q (b.1 29) (eL u x) v := by
    intro v vg vJ he
    have c1 : b.1 29 ≤ v.1 29 := (C.tr vg.2.1).1
    have a9 := a9 (by omega)
    have t1 : v.1 1 < 60 := by rw [vg.s 1 (by decide), a9.2.1]; exact hD.2.2 (by omega)
    have v3 : v.1 3 ≤ b.1 29 := by rw [vg.s 3 (by decide), a9.2.2]; exact bk
    have v44 : v.1 44 = b.1 44 := by rw [vg.s 44 (by decide)]; exact a8.2.2.1
    have v45 : v.1 45 = b.1 45 := by rw [vg.s 45 (by decide)]; exact a8.2.2.2.1
    have fin : ∀ w, HJ w → w.1 43 = v.1 43 → w.1 42 = v.1 42 → Q 0 w := fun w wJ w43 w42 => hq 0 w wJ (by rw [w43, vg.s 43 (by decide)]; exact a8.2.1) (by rw [w42, vg.s 42 (by decide)]; exact a8.1)
    unfold v_11_conclude_190
    refine rd_i fun _ => rd_i fun _ => ?_
    rcases he with he | he
    · exact j_takeThm (k := 2) (Q := Q 0) (fun c z => br_y (by omega) (by unfold v_11_conclude_227; exact z)) vJ t1 (by decide) (by omega) (by omega) v3 c1 fin
    · exact j_takeThm (k := 3) (Q := Q 0) (fun c z => br_n (fun y => y he) (by unfold v_11_conclude_227; exact z)) vJ t1 (by decide) (by omega) (by omega) v3 c1 fin
  have k119 : ∀ v, RG (50 :: mS) mR u v → HJ v → v_11_conclude_119 Q x (b.1 29) (eL u x) v := by
    intro v vg vJ
    have Cv : Ce b v := C.tr vg.2.1
    have c1 : b.1 29 ≤ v.1 29 := Cv.1
    have e43 : v.1 43 = b.1 43 := by rw [vg.s 43 (by decide)]; exact a8.2.1
    have e42 : v.1 42 = b.1 42 := by rw [vg.s 42 (by decide)]; exact a8.1
    unfold v_11_conclude_119
    refine br_i (fun _ => br_i (fun e21 => k190 v vg vJ (Or.inl e21)) fun _ => br_i (fun _ => hq 0 v vJ e43 e42) fun e22 => k190 v vg vJ (Or.inr (Classical.not_not.mp e22))) fun e20 => ?_
    have e20 : eL u x = 20 := Classical.not_not.mp e20
    have a9 := a9 (by omega)
    obtain ⟨d1, d2, n, d3, d4⟩ := hD.1.2 (by omega)
    have pr1 := itF_r bJ.1 (m := b.1 29) (k := 2) (x := x) (by omega) hx
    have pe : itF v 2 x = itF b 2 x := itF.ext bJ.1 Cv hx
    have pl : LnN v n (itF v 2 x) := by rw [pe]; exact d4.ext bJ.1 Cv pr1.2.1
    refine j_itemF (k := 2) vJ.1.1 (by decide) (rd_i fun _ => j_lenN vJ.1.1 (fun z => absurd pl (z n)) fun n2 _ hL => ?_)
    have : n2 = n := hL.uq vJ.1.1 pl
    subst this
    have v44 : v.1 44 = b.1 44 := by rw [vg.s 44 (by decide)]; exact a8.2.2.1
    have v45 : v.1 45 = b.1 45 := by rw [vg.s 45 (by decide)]; exact a8.2.2.2.1
    have v46 : v.1 46 = b.1 46 := by rw [vg.s 46 (by decide)]; exact a8.2.2.2.2
    have wf := hS.2 hb d1
    have v3 : v.1 3 ≤ b.1 29 := by rw [vg.s 3 (by decide), a9.2.2]; exact bk
    refine rd_i fun _ => rd_i fun _ => ?_
    exact j_takeFun (Q := Q 0) vJ (by rw [vg.s 0 (by decide), a9.1]; exact hD.2.1 (by omega)) ⟨by omega, by omega⟩ (by rw [pe]; exact pr1.2.2) ⟨by omega, by omega⟩ (by rw [v45]; exact ⟨wf.2, hS1.2.1⟩) (by rw [v45]; exact wf.1.ext bJ.1 Cv) (by omega) v3 c1 fun w wJ w43 w42 => hq 0 w wJ (by omega) (by omega)
  have k88 : ∀ y, (y = 0 ∨ (y = 1 ∧ 0 < u.1 13)) → u.1 32 = 0 → v_11_conclude_88 Q x (b.1 29) (eL u x) y u := by
    intro y hy h32
    unfold v_11_conclude_88
    refine ⟨hy.imp id And.left, sw_e fun w e => ?_⟩
    have wg : RG [50] [] u w := by rw [e]; exact (RG.rf h.T).I _ (by decide) (by decide) (by decide)
    have w50 : w.1 50 = y := by rw [e]; rfl
    clear e
    have wJ : HJ w := by
      refine ⟨h.J.rg wg (by decide) (by decide) (h.S.keep (wg.a 54 (by decide))), fun z => ?_⟩
      have h13 : 0 < u.1 13 := by omega
      have p : PRv u := ⟨h.2.2.1 h32, h.2.2.2.1.less (fun c hc => Or.inl hc), h.2.2.2.2.2.2.1.resolve_left (by omega)⟩
      exact p.rg wg (by decide) (by decide)
    refine br_i (fun _ => k119 w (wg.w (by decide) (by decide)) wJ) fun e22 => ?_
    have e22 : eL u x = 22 := Classical.not_not.mp e22
    refine j_shownWrong (G := fun c => LF u c ∨ c = u.2.1 57 0) wJ.1.1 wJ.1.2.2.2.2.2.1 (fun z => ⟨(hF e22 h32 (by rw [← wg.s 12 (by decide)]; exact z)).rg wg (by decide) (by decide), Or.inr (by rw [wg.a 57 (by decide)])⟩) fun r v hv => ?_
    have vJ : HJ v := wJ.rg hv (by decide) (by decide) (wJ.1.2.2.1.keep (hv.a 54 (by decide))) (by decide) (by decide) (by decide)
    have vg : RG (50 :: mS) mR u v := (wg.w (by decide) (by decide)).tr (hv.w (by decide) (by decide))
    refine br_i (fun _ => k119 v vg vJ) fun _ => j_shownWrong (G := fun c => LF u c ∨ c = u.2.1 57 0) vJ.1.1 vJ.1.2.2.2.2.2.1 (fun z => ⟨(hF e22 h32 (by rw [← vg.s 12 (by decide)]; exact z)).rg vg (by decide) (by decide), Or.inr (by rw [vg.a 57 (by decide)])⟩) fun r2 v2 hv2 => ?_
    have v2J : HJ v2 := vJ.rg hv2 (by decide) (by decide) (vJ.1.2.2.1.keep (hv2.a 54 (by decide))) (by decide) (by decide) (by decide)
    refine j_write v2J.1.1 v2J.1.2.2.1 (by decide) (by decide) fun z hz zS => ?_
    have zg : RG (50 :: mS) (mR ++ scR) u z := ((vg.w (by decide) (by decide)).tr (hv2.w (by decide) (by decide))).tr (hz.w (by decide) (by decide))
    exact hq 7 z (v2J.rg hz (by decide) (by decide) zS (by decide) (by decide) (by decide)) (by rw [zg.s 43 (by decide)]; exact a8.2.1) (by rw [zg.s 42 (by decide)]; exact a8.1)
  unfold v_11_conclude
  refine j_left h.T (rd_i fun _ => br_i (fun h32 => rd_i fun _ => br_i (fun h15 => rd_i fun _ => br_i (fun h13 => k88 0 (Or.inl rfl) h32) fun h13 => k88 1 (Or.inr ⟨rfl, by omega⟩) h32) fun _ => j_listOfLeft h.T h.2.2.2.1 h.J.2.2.2.2.2.2.2.2.2.1 fun t v hv _ => j_write hv.1 (h.S.keep (hv.a 54 (by decide))) (by decide) (by decide) fun w hw wS => ?_) fun _ => j_clear9 h.T h.S fun w hw wS => ?_)
  · have wg : RG mS (mR ++ scR) u w := (hv.w (by decide) (by decide)).tr (hw.w (by decide) (by decide))
    have wH := h.k wg (by decide) (by decide) wS
    exact br_i (fun _ => hq 6 w wH.hj wH.e43 wH.e42) fun _ => hq 5 w wH.hj wH.e43 wH.e42
  · have wH := h.k hw (by decide) (by decide) wS
    unfold v_4_begin
    refine sw_e fun s e => sw_e fun v e2 => ?_
    have vg : RG [13, 15] [] w v := by rw [e2, e]; exact ((RG.rf wH.T).I _ (by decide) (by decide) (by decide)).I _ (by decide) (by decide) (by decide)
    have v13 : v.1 13 = 0 := by rw [e2, e]; rfl
    have v15 : v.1 15 = 0 := by rw [e2]; rfl
    clear e e2
    have wJ := wH.J
    exact hq 4 v ⟨wJ.gb vg (by decide) (wJ.2.1.rg wJ.1 vg (by decide) (by decide)) (wS.keep (vg.a 54 (by decide))) (by rw [vg.s 39 (by decide)]; exact wJ.2.2.2.1) (wJ.2.2.2.2.2.1.rg vg (by decide) (by decide)) (by rw [vg.s 33 (by decide)]; exact wJ.2.2.2.2.2.2.1) (by omega) (by rw [vg.s 14 (by decide)]; exact wJ.2.2.2.2.2.2.2.2.1) (by omega), fun z => absurd wH.2.2.2.2.2.1 (by rw [← vg.s 50 (by decide)]; exact z)⟩ (by rw [vg.s 43 (by decide)]; exact wH.e43) (by rw [vg.s 42 (by decide)]; exact wH.e42)
theorem j_run140 {x m : Int} {b u : iST} {Q : Int → iST → Prop} (hm : m = b.1 29) (h : HW x b u) (bJ : HJ0 b) (hS : SuOk b) (hb : b.1 32 = 0) (hx : x < b.1 29) (hD : DoOk x b) (hF : eL u x = 22 → u.1 32 = 0 → u.1 12 = -1 → CV (fun c => LF u c ∨ c = u.2.1 57 0) u) (hq : ∀ r v, HJ v → v.1 43 = b.1 43 → v.1 42 = b.1 42 → Q r v) : v_11_run_140 Q x m u := by
  unfold v_11_run_140
  refine rd_i fun _ => sw_e fun w e => rd_i fun _ => sw_e fun v e2 => ?_
  have vg : RG [48, 49] [] u v := by rw [e2, e]; exact ((RG.rf h.T).I _ (by decide) (by decide) (by decide)).I _ (by decide) (by decide) (by decide)
  clear e e2
  have vH := h.k vg (by decide) (by decide) (h.S.keep (vg.a 54 (by decide)))
  refine j_conclude11 hm vH bJ hS hb hx hD (fun z1 z2 z3 => ?_) hq
  rw [(vg.2.1.el (by have := h.1.1; omega)).1] at z1
  rw [vg.s 32 (by decide)] at z2
  rw [vg.s 12 (by decide)] at z3
  have q := (hF z1 z2 z3).rg vg (by decide) (by decide)
  rw [show LF v = LF u from LG.eq (vg.s 13 (by decide)) (vg.s 15 (by decide)), vg.a 57 (by decide)]
  exact q
theorem j_run111 {x m : Int} {b u : iST} {Q : Int → iST → Prop} (hm : m = b.1 29) (h : HW x b u) (bJ : HJ0 b) (hS : SuOk b) (hb : b.1 32 = 0) (hx : x < b.1 29) (hD : DoOk x b) (hq : ∀ r v, HJ v → v.1 43 = b.1 43 → v.1 42 = b.1 42 → Q r v) : v_11_run_111 Q x m u := by
  unfold v_11_run_111
  refine j_left h.T (br_i (fun n22 => j_run140 hm h bJ hS hb hx hD (fun z => absurd z n22) hq) fun e22 => j_item h.T (by decide) fun c c0 c1 => ?_)
  refine j_goThrough (E := LF u) h.J.WK h.J.2.1.NB h.2.2.2.1 h.J.2.2.2.2.2.2.1 h.J.2.2.2.2.2.2.2.1 ⟨h.2.2.2.2.1.1, h.2.2.2.2.1.2.1⟩ h.2.2.2.2.1.2.2 c0 c1 fun v hv v13 vW vC v33 vF v31 => ?_
  have e : LF v = LF u := LG.eq v13 (hv.s 15 (by decide))
  have vH : HW x b v := h.go hv (by decide) (by decide) (fun z => (h.2.2.1 (hv.2.2.2 z)).keep (hv.s 26 (by decide)) hv.2.1.1 (hv.a 52 (by decide))) (by rw [e]; exact vC) v31 (by rw [v13]; exact h.2.2.2.2.2.2.1) vW.2.2.2.2.2.1 vW.2.2.2.2.2.2 v33 (by rw [v13]; exact h.J.2.2.2.2.2.2.2.1) (by rw [hv.s 14 (by decide)]; exact h.J.2.2.2.2.2.2.2.2.1) (by rw [hv.s 15 (by decide)]; exact h.J.2.2.2.2.2.2.2.2.2.1)
  exact j_run140 hm vH bJ hS hb hx hD (fun _ z2 z3 => by rw [e]; exact vF z3 z2) hq
theorem AsOk.ce {x : Int} {u v : iST} (h : AsOk x u) (hT : RT u) (hx : x < u.1 29) (g : Ce u v) (h4 : v.1 44 = u.1 44) (h5 : v.1 45 = u.1 45) : AsOk x v := by
  have e := (g.el hx).1
  unfold AsOk DfOkc at *
  rw [e, h4, h5, itF.ext hT g hx]
  refine ⟨h.1, fun z => ?_⟩
  obtain ⟨a, b, n, c, d⟩ := h.2 z
  exact ⟨a, b, n, c, d.ext hT g (itF_r hT (m := u.1 29) (by have := hT.1.1; omega) hx).2.1⟩
theorem j_run {u : iST} {Q : Int → iST → Prop} (h : HJ u) (hq : ∀ r v, HJ v → v.1 43 = u.1 43 → v.1 42 = 0 → Q r v) : v_11_run Q u := by
  have n := h.1.2.2.2.2.2.2.2.2.2.2.2.1
  unfold v_11_run
  refine rd_i fun _ => sw_e fun w e => ?_
  have wg : RG [42, 43] [44, 45] u w := by rw [e]; exact (RG.rf h.1.1).I _ (by decide) (by decide) (by decide)
  have w42 : w.1 42 = 0 := by rw [e]; rfl
  have w43 : w.1 43 = u.1 43 := by rw [e]; rfl
  clear e
  have wJ : HJ w := h.io wg (by rw [w43]; exact h.1.2.2.2.2.2.2.2.2.2.2.1) (by omega)
  refine j_forgetLatest wJ.1 fun v vJ v50 v13 v15 v32 v44 v45 v46 v42 v43 => j_readText vJ.1 n.1 n.2 fun t z hz ht => rd_i fun _ => ?_
  have zJ : HJ0 z := vJ.rg hz (by decide) (by decide) (vJ.2.2.1.keep (hz.a 54 (by decide)))
  have z50 : z.1 50 = 0 := by rw [hz.s 50 (by decide)]; exact v50
  have z43 : z.1 43 = u.1 43 := by rw [hz.s 43 (by decide), v43, w43]
  have z42 : z.1 42 = 0 := by rw [hz.s 42 (by decide), v42, w42]
  have z44 := zJ.1.1.1
  refine br_i (fun _ => ?_) fun _ => hq 1 z ⟨zJ, fun y => absurd z50 y⟩ z43 z42
  have zQ : AQ z z := ⟨RG.rf zJ.1, zJ.WK, zJ.2.2.2.2.1, zJ.2.2.2.2.2.2.1, ⟨by rw [hz.s 44 (by decide), hz.s 45 (by decide), hz.s 46 (by decide)]; omega, fun _ y => absurd (show z.1 45 = -1 by rw [hz.s 45 (by decide)]; exact v45) y⟩⟩
  refine j_asked zQ ht fun a y yQ yD => ?_
  have yg := yQ.1
  have yW := yQ.2.1
  have yJ : HJ0 y := by
    obtain ⟨b1, b2, b3, b4, b5, b6, b7, b8, b9, c1, c2, c3, c4⟩ := zJ
    exact ⟨yQ.T, b2.rg b1 yg (by decide) (by decide), yW.2.2.2.2.2.1, yW.2.2.2.2.2.2, yQ.2.2.1, b6.rg yg (by decide) (by decide), yQ.2.2.2.1, by rw [yg.s 13 (by decide)]; exact b8, by rw [yg.s 14 (by decide)]; exact b9, by rw [yg.s 15 (by decide)]; exact c1, by rw [yg.s 43 (by decide)]; exact c2, by rw [yg.s 42 (by decide)]; exact c3, by rw [yg.s 27 (by decide)]; exact c4⟩
  have y50 : y.1 50 = 0 := by rw [yg.s 50 (by decide)]; exact z50
  have y43 : y.1 43 = u.1 43 := by rw [yg.s 43 (by decide)]; exact z43
  have y42 : y.1 42 = 0 := by rw [yg.s 42 (by decide)]; exact z42
  have bad : ∀ c, c ≠ 0 → v_11_run_62 Q t c y := fun c hc => by
    unfold v_11_run_62
    exact br_n hc (hq c y ⟨yJ, fun s => absurd y50 s⟩ y43 y42)
  refine br_i (fun ne => bad a ne) fun a0 => rd_i fun _ => br_i (fun y32 => ?_) fun _ => bad 8 (by decide)
  have a0 : a = 0 := Classical.not_not.mp a0
  have yD := yD a0
  have yS := yQ.2.2.2.2
  have tx : t < y.1 29 := yg.up ht
  rw [a0]
  unfold v_11_run_62
  refine br_y rfl (rd_i fun _ => rd_i fun _ => j_begin yJ.1 fun b bT b2 bo b30 b31 b32 => ?_)
  have bs : ∀ k, k ≠ 30 → k ≠ 31 → k ≠ 32 → b.1 k = y.1 k := fun k h1 h2 h3 => bo k (by simp only [List.mem_cons, List.not_mem_nil, or_false, not_or]; exact ⟨h1, h2, h3⟩)
  have b29 : b.1 29 = y.1 29 := bs 29 (by decide) (by decide) (by decide)
  have C : Ce y b := ⟨by omega, fun i _ _ => by rw [b2]⟩
  have hB := yJ.2.1
  have bB : BL b := hB.same (fun k hk => bs k (fun e => by rw [e] at hk; revert hk; decide) (fun e => by rw [e] at hk; revert hk; decide) (fun e => by rw [e] at hk; revert hk; decide)) (fun k _ => by rw [b2]) (by rw [b29]; exact hB.2.2.2.1) (fun f f0 f1 => (hB.fun f0 f1).2.2.2.2.1.ext yJ.1 C)
  have bJ : HJ0 b := by
    obtain ⟨p1, p2, p3, p4, p5, p6, p7, p8, p9, c1, c2, c3, c4⟩ := yJ
    exact ⟨bT, bB, p3.keep (by rw [b2]), by rw [bs 39 (by decide) (by decide) (by decide)]; exact p4, by rw [bs 37 (by decide) (by decide) (by decide), bs 38 (by decide) (by decide) (by decide)]; exact p5, p6.keep (by rw [b2]) (by rw [b2]) C.1, by rw [bs 33 (by decide) (by decide) (by decide)]; exact p7, by rw [bs 13 (by decide) (by decide) (by decide)]; exact p8, by rw [bs 14 (by decide) (by decide) (by decide)]; exact p9, by rw [bs 15 (by decide) (by decide) (by decide)]; exact c1, by rw [bs 43 (by decide) (by decide) (by decide)]; exact c2, by rw [bs 42 (by decide) (by decide) (by decide)]; exact c3, by rw [bs 27 (by decide) (by decide) (by decide)]; exact c4⟩
  have b44 : b.1 44 = y.1 44 := bs 44 (by decide) (by decide) (by decide)
  have b45 : b.1 45 = y.1 45 := bs 45 (by decide) (by decide) (by decide)
  have b46 : b.1 46 = y.1 46 := bs 46 (by decide) (by decide) (by decide)
  have b13 : b.1 13 = 0 := by rw [bs 13 (by decide) (by decide) (by decide), yg.s 13 (by decide), hz.s 13 (by decide)]; exact v13
  have b15 : b.1 15 = 0 := by rw [bs 15 (by decide) (by decide) (by decide), yg.s 15 (by decide), hz.s 15 (by decide)]; exact v15
  have bS : SuOk b := ⟨by have := yS.1; omega, fun _ q => by rw [b45] at q ⊢; exact ⟨(yS.2 y32 q).1.ext yJ.1 C, (yS.2 y32 q).2⟩⟩
  have el : eL b t = eL y t := (C.el tx).1
  have bD : DoOk t b := ⟨yD.1.ce yJ.1 tx C b44 b45, by rw [el, bs 0 (by decide) (by decide) (by decide)]; exact yD.2.1, by rw [el, bs 1 (by decide) (by decide) (by decide)]; exact yD.2.2⟩
  have bC : CV (LF b) b := fun c c0 c1 => ⟨(bJ.2.2.2.2.2.1 c c0 c1).1, fun q => by rcases q with q | q | q <;> first | (exfalso; omega) | exact q.elim⟩
  have bt : t < b.1 29 := by omega
  have e43 : b.1 43 = u.1 43 := by rw [bs 43 (by decide) (by decide) (by decide), y43]
  have e42 : b.1 42 = 0 := by rw [bs 42 (by decide) (by decide) (by decide), y42]
  have yf := yJ.2.2.2.2.2.2.2.2.2.2.1
  have fin : ∀ s, HW t b s → v_11_run_111 Q t (y.1 29) s := fun s hs => j_run111 b29.symm hs bJ bS b32 bt bD fun r p pJ p43 p42 => hq r p pJ (by omega) (by omega)
  refine j_prepare bJ bC ⟨by omega, by omega, by omega⟩ (by rw [bs 50 (by decide) (by decide) (by decide)]; exact y50) bt b13 b15 b32 bS bD.1 fun s hs => rd_i fun _ => br_i (fun _ => fin s hs) fun s32 => ?_
  have s32 := Classical.not_not.mp s32
  have sJ := hs.J
  by_cases h13 : s.1 13 ≤ 0
  · refine j_prove0 hs.T h13 fun p hp p15 => fin p ?_
    refine hs.go hp (by decide) (by decide) (fun z => (hs.2.2.1 (hp.2.2.2 z)).keep (hp.s 26 (by decide)) hp.2.1.1 (hp.a 52 (by decide))) (fun c c0 c1 => ⟨by rw [hp.a 46 (by decide)]; exact (sJ.2.2.2.2.2.1 c c0 c1).1, fun q => ?_⟩) (by rw [hp.s 31 (by decide), hp.s 30 (by decide)]; exact ⟨hs.2.2.2.2.1.1, hs.2.2.2.2.1.2.1⟩) (Or.inl (by rw [hp.s 13 (by decide)]; exact h13)) (hs.S.keep (hp.a 54 (by decide))) (by rw [hp.s 39 (by decide)]; exact sJ.2.2.2.1) (by rw [hp.s 33 (by decide)]; exact sJ.2.2.2.2.2.2.1) (by rw [hp.s 13 (by decide)]; exact sJ.2.2.2.2.2.2.2.1) (by rw [hp.s 14 (by decide)]; exact sJ.2.2.2.2.2.2.2.2.1) (by omega)
    have p13 : p.1 13 = s.1 13 := hp.s 13 (by decide)
    rcases q with q | q | q
    · exfalso; omega
    · exfalso; omega
    · exact q.elim
  · refine j_prove (E := fun _ => False) (Or.inl rfl) sJ.WK (fun _ => hs.2.2.1 s32) (hs.2.2.2.2.2.2.1.resolve_left h13) ⟨hs.2.2.2.2.1.1, hs.2.2.2.2.1.2.1⟩ (fun _ _ => hs.2.2.2.2.1.2.2) sJ.2.2.2.2.2.2.2.1 sJ.2.2.2.2.2.2.2.2.1 (hs.2.2.2.1.less (fun c hc => hc.imp id (fun z => z.elim))) fun p hp => fin p ?_
    obtain ⟨p1, p2, p3, p4, p5, p6, p7, p8⟩ := hp
    exact hs.go p1 (by decide) (by decide) (fun z => p3 (Or.inl z)) p7 p4 (Or.inr (hs.2.2.2.2.2.2.1.resolve_left h13)) p2.2.2.2.2.2.1 p2.2.2.2.2.2.2 (by rw [p1.s 33 (by decide)]; exact sJ.2.2.2.2.2.2.1) (by rw [p1.s 13 (by decide)]; exact sJ.2.2.2.2.2.2.2.1) p5 p6
