/-! the turns of rewriting: ends, passing on, rules, definitions -/
def Bud (u : iST) : Prop := u.1 8 + 260 * (u.1 59 - u.1 60) + 600 ≤ 452000 ∧ u.1 6 + 4 * (u.1 59 - u.1 60) + 16 < 40000
theorem Wt.bud {u w : iST} {J k : Nat} {R T C d e : Int} (hB : Bud u) (h : Wt u w J k R T C d e) : w.1 8 + 260 * (w.1 59 - w.1 60) + (600 - d) ≤ 452000 ∧ w.1 6 + 4 * (w.1 59 - w.1 60) + (16 - e) < 40000 ∧ w.1 60 ≤ w.1 59 := by
  obtain ⟨a1, a2, a3, a4, a5, a6, a7, a8⟩ := h
  obtain ⟨_, _, b3, _, _, b6, b7, b8, b9, _, _⟩ := a2
  have := fx_s b3 59 rfl
  unfold Bud at hB
  omega
theorem Wt.mono {u w : iST} {J k : Nat} {R T C d e d' e' : Int} (h : Wt u w J k R T C d e) (hd : d ≤ d') (he : e ≤ e') : Wt u w J k R T C d' e' := by
  obtain ⟨a1, a2, a3, a4, a5, a6, a7, a8⟩ := h
  exact ⟨a1, a2.mono (by omega) (by omega), a3, a4, a5, a6, a7, a8⟩
theorem Wt.stop {u w : iST} {J k : Nat} {R T C d e : Int} (h : Wt u w J k R T C d e) (hd : d ≤ 600) (he : e ≤ 16) (h61 : w.1 61 ≠ 0) : EX u 0 w := EX.stop h.2.1 h.1 (by omega) (by omega) h61
theorem SP.step {w : iST} (hW : WI w) (h : w.1 60 ≠ w.1 59) : SP fM w (iI w 60 (w.1 60 + 1)) (-260) (-4) := by
  obtain ⟨b1, b2, b3, b4, b5, b6, b7, b8⟩ := hW
  have ht : ∀ k, k ≤ 11 → (iI w 60 (w.1 60 + 1)).1 k = w.1 k ∧ (iI w 60 (w.1 60 + 1)).2.1 k = w.2.1 k := fun k hk => ⟨if_neg (by omega), rfl⟩
  exact ⟨TI_eq b1.1 ht rfl, ExtT.same ht rfl ⟨rfl, rfl, rfl, rfl, rfl⟩, Fx_I (k := 60) rfl, b1.2.2.1, b1.2.2.2, show w.1 60 ≤ w.1 60 + 1 by omega, show w.1 60 + 1 ≤ w.1 59 by omega, show w.1 8 ≤ w.1 8 + 260 * (w.1 60 + 1 - w.1 60) + -260 by omega, show w.1 6 ≤ w.1 6 + 4 * (w.1 60 + 1 - w.1 60) + -4 by omega, rfl, b4⟩
theorem Wt.wait {u w : iST} {k : Nat} {R R' C d e : Int} (h : Wt u w (k + 1) k R' R C d e) (hj : Jb w k R' R C C) : Wt u w (k + 1) (k + 1) R R C d e := by
  obtain ⟨a1, a2, a3, a4, a5, a6, a7, a8⟩ := h
  exact ⟨a1, a2, a3, a4, ⟨R', C, a5, hj⟩, a6, a7, a8⟩
theorem Sm.of {w v : iST} {t : Int} (h : Sm w t) (ht : IsT w t) (hE : ExtT w v) (h61 : v.1 61 = w.1 61) : Sm v t := fun z => by rw [hE.szx ht]; exact h (by rw [← h61]; exact z)
theorem g_end0 {u w : iST} {x : Int} {k n : Nat} {R C d e : Int} {Q : iST → Prop} (hu : TI u) (h : Wt u w (k + 1) k R R C d e) (hd : d ≤ 20) (he : e ≤ 4) (hx : IsT w x) (hs : Sm w x) (hn : 5 * (w.1 59 - w.1 60) + 2 * ((k + 1 : Nat) : Int) ≤ n) (hq : ∀ (N : Nat) v, EX u N v → N < n → Q v) : w_end0 x Q w := by
  obtain ⟨a1, a2, a3, a4, a5, a6, a7, a8⟩ := h
  have hT := a1.1.1
  have hr := hx.r
  have h60 := a1.2.2.2.2.2
  have key : ∀ y, IsT w y → Sm w y → w_end0_40 Q y (iI w 102 k) := by
    intro y hy hys
    unfold w_end0_40
    refine sw_i (zt_1 (sw_i ?_))
    generalize hv : iI (iI (iI w 102 (k : Int)) 110 y) 111 1 = v
    have v1 : ∀ g, g ≠ 102 → g ≠ 110 → g ≠ 111 → v.1 g = w.1 g := fun g g1 g2 g3 => by rw [← hv]; exact (if_neg g3).trans ((if_neg g2).trans (if_neg g1))
    have v2 : v.2 = w.2 := by rw [← hv]; rfl
    have v102 : v.1 102 = k := by rw [← hv]; rfl
    have v110 : v.1 110 = y := by rw [← hv]; rfl
    have v111 : v.1 111 = 1 := by rw [← hv]; rfl
    clear hv
    have v59 := v1 59 (by decide) (by decide) (by decide)
    have v60 := v1 60 (by decide) (by decide) (by decide)
    obtain ⟨b1, b2, b3, b4⟩ := SP.num (v := v) hu a2 a1 v2 (fun g g1 g2 g3 g4 g5 g6 => v1 g g2 g5 g6)
    by_cases h61 : w.1 61 = 0
    · have hW : Wt u v k k R R C 10 2 := ⟨b2, b1.mono (by omega) (by omega), v102, by omega, a5.ext a1 b3 b4 (fun i _ => ⟨fun g _ _ => by rw [v2], by rw [v2], fun j _ _ => by rw [v2]⟩) (fun j _ _ => by rw [v2]), by rw [v1 104 (by decide) (by decide) (by decide)]; exact a6, by rw [v1 109 (by decide) (by decide) (by decide)]; exact a7, a8.ext hT b3 (v1 109 (by decide) (by decide) (by decide)) (by rw [v2])⟩
      exact hq (5 * (w.1 59 - w.1 60) + 2 * k).toNat v ⟨b1.mono (by omega) (by omega), b2, fun _ => ⟨k, R, C, Or.inr ⟨by rw [v111]; decide, hW, by rw [v110]; exact TJ.ext hT b3 ⟨hy, hys h61⟩, by omega⟩⟩⟩ (by omega)
    · exact hq 0 v (EX.stop b1 b2 (by omega) (by omega) (by rw [v1 61 (by decide) (by decide) (by decide)]; exact h61)) (by omega)
  have k39 : ∀ y, IsT w y → Sm w y → w_end0_39 Q y (iI w 102 k) := fun y hy hys => by unfold w_end0_39; exact key y hy hys
  unfold w_end0
  refine rd_i fun _ => ov_i (by omega) (by omega) ?_
  rw [show w.1 102 - 1 = (k : Int) from by omega]
  refine sw_i (rd_i fun _ => bd_i (show (0 : Int) ≤ k by omega) (show (k : Int) < 60 by omega) (rz_i fun _ => br_i (fun _ => k39 x hx hs) fun _ => br_i (fun _ => k39 x hx hs) fun _ => ?_))
  exact s_isConstant (TI_eq hT (fun g hg => ⟨if_neg (by omega), rfl⟩) rfl) hr.1 hr.2 fun r _ _ => br_i (fun _ => k39 x hx hs) fun _ => key 1 (TJ.c1 hT).1 (fun _ => (TJ.c1 hT).2)
theorem g_passOn {u w : iST} {x : Int} {k n : Nat} {R C d e : Int} {Q : iST → Prop} (hu : TI u) (h : Wt u w (k + 1) k R R C d e) (hd : d ≤ 260) (he : e ≤ 4) (hj : TJ w (w.2.1 92 k)) (hx : IsT w x) (hs : Sm w x) (hn : 5 * (w.1 59 - w.1 60) + 2 * ((k + 1 : Nat) : Int) ≤ n) (hq : ∀ (N : Nat) v, EX u N v → N < n → Q v) : w_passOn x Q w := by
  have a1 := h.1
  have a3 := h.2.2.1
  have a4 := h.2.2.2.1
  have h60 := a1.2.2.2.2.2
  unfold w_passOn
  refine rd_i fun _ => ov_i (by omega) (by omega) ?_
  rw [show w.1 102 - 1 = (k : Int) from by omega]
  refine bd_i (by omega) (by omega) (sw_i (bd_i (by omega) (by omega) (rz_i fun hz => ?_)))
  have hv := h.set (g := 94) (x := 90) hu (by decide) (by decide)
  have hE := (SP.rows (v := iA w 94 (k : Int) 90) a1 (Fx_A (k := 94) rfl) rfl).2.1
  refine g_beginJob hu (hv.wait ⟨?_, ?_⟩) hd he (hx.ext a1.1.1 hE) (hs.of hx hE rfl) hz hn (by omega) hq
  · exact hj.ext a1.1.1 hE
  · refine Or.inr (Or.inr (Or.inr (Or.inr (Or.inr (Or.inr (Or.inr ⟨?_, rfl, rfl⟩))))))
    rw [iA_same, if_pos rfl]
theorem g_bodyOf {w : iST} {o i d : Int} {Q : Int → iST → Prop} (hW : WI w) (ho : TJ w o) (hc : Call w o) (d0 : 0 ≤ d) (d1 : d < w.1 35) (hf : FnOf w (w.2.1 0 o) (100 + d)) (hi : i = 0 ∨ (1 ≤ i ∧ i ≤ 3 ∧ w.2.1 0 (w.2.1 39 d) = 3)) (h8 : w.1 8 + 240 ≤ 452000) (hq : ∀ t v, SP fM w v 239 0 → IsT v t → Sm v t → Q t v) : w_bodyOf o i Q w := by
  have hT := hW.1.1
  have hD := hW.1.2.1
  have hr := ho.1.r
  have hm := hT.2.1
  obtain ⟨b1, b2⟩ := hW.2.1 d d0 d1
  obtain ⟨n, c1, c2, c3, c4⟩ := ho.args hT hc
  have hmany : w.2.1 37 d = n := by
    have h1 : Ar w (w.2.1 0 o) (w.2.1 37 d).toNat := by
      refine ⟨100 + d, hf, by omega, ?_⟩
      unfold Many
      rw [if_neg (by omega), if_neg (by omega), if_neg (by omega), if_neg (by omega), show 100 + d - 100 = d from by omega]
      have := hD.2.2.1 d d0 d1
      omega
    have := h1.fun c2
    have := hD.2.2.1 d d0 d1
    omega
  have hd40 := hD.2.1
  unfold w_bodyOf
  refine bd_i hr.1 (by omega) (rd_i fun _ => s_functionOf hD.1 hD.2.1 fun r hfr => ?_)
  have e := hfr.fun hf
  subst e
  rw [show 100 + d - 100 = d from by omega]
  refine ov_i (by omega) (by omega) (bd_i d0 (by omega) (rd_i fun _ => sw_i ?_))
  unfold w_bodyOf_27
  refine lf4 (B := fun R x1 x2 x3 x4 u => w_bodyOf_27b R Q x1 x2 x3 x4 u) (fun x1 x2 x3 x4 v => x1 = o ∧ x2 = i ∧ x3 = d ∧ 0 ≤ x4 ∧ x4 ≤ n ∧ v.1 74 = n ∧ Fx fY w v ∧ v.2.2 = w.2.2 ∧ ∀ j, 0 ≤ j → j < x4 → IsT w (v.2.1 73 j)) (fun _ _ _ x4 _ => (n - x4).toNat) ?_ ⟨rfl, rfl, rfl, Int.le_refl _, by omega, hmany, Fx_I (k := 74) rfl, rfl, fun j j0 j1 => by omega⟩
  intro x1 x2 x3 x4 v hI R ih
  obtain ⟨rfl, rfl, rfl, p1, p2, p3, p4, p5, p6⟩ := hI
  have vt : ∀ g, g ≤ 11 → v.1 g = w.1 g ∧ v.2.1 g = w.2.1 g := fun g hg => p4 g (by simp [fY]; omega)
  have hS : SP fM w v 0 0 := SP.same hW fM_J (p4.mono fY_M) vt p5 (fx_s p4 69 rfl) (fx_s p4 71 rfl) (fx_s p4 60 rfl) (OI_eq hW.2.2.2.1 (fx_s p4 16 rfl) (fx_s p4 22 rfl))
  have hV := (hS.up fM_J).wi hW
  have vE := hS.2.1
  have v8 := (vt 8 (by decide)).1
  unfold w_bodyOf_27b
  refine rd_i fun _ => br_i (fun hc2 => ?_) (fun hc2 => ?_)
  · have hsub : SubOk v := ⟨by omega, by omega, fun j j0 j1 => (p6 j j0 (by omega)).ext hT vE⟩
    have k102 : ∀ y, TJ v y → w_bodyOf_102 Q y v := by
      intro y hy
      have ys := hy.2
      have ys0 := hy.1.szr hV.1.1
      unfold w_bodyOf_102
      exact g_inst hV.1 hy.1 hy.2 hsub (by omega) fun t z hg hz hzs _ _ => hq t z ((hS.tr hT (hg.sp hV)).mono (by omega) (by omega)) hz hzs
    have hb : TJ v (w.2.1 39 x3) := TJ.ext hT vE ⟨b1.1, b2⟩
    refine br_i (fun hne => bd_i d0 (by omega) (rd_i fun _ => ?_)) (fun _ => bd_i d0 (by omega) (rd_i fun _ => ?_))
    · rw [fx_a p4 39 rfl]
      have h3 := hi.resolve_left hne
      have e3 : v.2.1 0 (w.2.1 39 x3) = 3 := by rw [(vt 0 (by decide)).2]; exact h3.2.2
      exact t_base hV.1.1 hb (by omega) (by omega) (by omega) fun t ht => k102 t ht
    · rw [fx_a p4 39 rfl]
      exact k102 _ hb
  · refine ov_i (by omega) (by omega) (ov_i (by omega) (by omega) (bd_i (by omega) (by omega) (rd_i fun _ => bd_i p1 (by omega) (sw_i (ov_i (by omega) (by omega) ?_)))))
    have tT : TI (iA v 72 x4 (v.2.1 38 (6 * x3 + x4))) := TI_eq hV.1.1 (fun g hg => ⟨rfl, iA_other (by omega)⟩) rfl
    refine s_term tT hr.1 (show x1 < v.1 8 by omega) (by omega) (by omega) (bd_i p1 (by omega) (sw_i (ov_i (by omega) (by omega) (ih _ _ _ _ _ ⟨rfl, rfl, rfl, by omega, by omega, p3, (p4.tr (Fx_A (k := 72) rfl)).tr (Fx_A (k := 73) rfl), p5, fun j j0 j1 => ?_⟩ (by omega)))))
    rw [iA_same]
    by_cases ej : j = x4
    · rw [if_pos ej]
      obtain ⟨m, hm2⟩ : ∃ m : Nat, x4 = m := ⟨x4.toNat, by omega⟩
      rw [show (x4 + 1).toNat = m + 1 from by omega, el_succ]
      have e1 : (iA v 72 x4 (v.2.1 38 (6 * x3 + x4))).2.1 1 = w.2.1 1 := (iA_other (by decide)).trans (vt 1 (by decide)).2
      have eE : Ext w (iA v 72 x4 (v.2.1 38 (6 * x3 + x4))) := Ext_eq (fun g hg => ⟨(vt g hg).1, (iA_other (by omega)).trans (vt g hg).2⟩) p5
      rw [e1, el_ext eE c3 m (by omega)]
      exact (c4.el m (by omega)).1
    · rw [if_neg ej, iA_other (by decide)]
      exact p6 j j0 (by omega)
theorem JR.ext {u v : iST} (hT : TI u) (h : ExtT u v) (hF : Fx fJ u v) {k : Int} (e100 : v.2.1 100 k = u.2.1 100 k) (e101 : v.2.1 101 k = u.2.1 101 k) (e107 : v.2.1 107 k = u.2.1 107 k) (e106 : v.2.1 106 = u.2.1 106) (hj : JR u k) : JR v k := by
  unfold JR at *
  rw [e100, e101, fx_s hF 42 rfl]
  exact ⟨hj.1, hj.2.1, hj.2.2.1.ext hT h hF, hj.2.2.2.1, hj.2.2.2.2.ext hT h e107 (fun _ _ _ => by rw [e106])⟩
theorem g_nextHypothesis {u w : iST} {k n : Nat} {R C d e : Int} {Q : iST → Prop} (hu : TI u) (hB : Bud u) (h : Wt u w (k + 1) k R R C d e) (hd : d ≤ 20) (he : e ≤ 4) (hj : TJ w (w.2.1 92 k)) (hc : Call w (w.2.1 92 k)) (hJ : JR w k) (h101 : w.2.1 101 k ≤ w.2.1 48 (w.2.1 100 k)) (hn : 5 * (w.1 59 - w.1 60) + 2 * ((k + 1 : Nat) : Int) ≤ n) (hq : ∀ (N : Nat) v, EX u N v → N < n → Q v) : w_nextHypothesis k Q w := by
  have a1 := h.1
  have a4 := h.2.2.2.1
  have hT := a1.1.1
  obtain ⟨j1, j2, j3, j4, j5⟩ := hJ
  have r60 := a1.2.2.1.2.1
  unfold w_nextHypothesis
  refine bd_i (by omega) (by omega) (rd_i fun _ => g_takePairs hT (by omega) (by omega) j5.1 j5.2.1 j5.2.2 fun v F L sub => ?_)
  have vt : ∀ g, g ≤ 11 → v.1 g = w.1 g ∧ v.2.1 g = w.2.1 g := fun g hg => F g (by simp [fY]; omega)
  have hS : SP fM w v 0 0 := SP.same a1 fM_J (F.mono fY_M) vt L (fx_s F 69 rfl) (fx_s F 71 rfl) (fx_s F 60 rfl) (OI_eq a1.2.2.2.1 (fx_s F 16 rfl) (fx_s F 22 rfl))
  have hv := h.sp hu hS
  have hV := hv.1
  have bud := hv.bud hB
  have vE := hS.2.1
  have v59 := fx_s F 59 rfl
  have v60 := fx_s F 60 rfl
  rw [fx_a F 101 rfl, fx_a F 48 rfl]
  refine bd_i (by omega) (by omega) (rd_i fun _ => bd_i j1 (by omega) (rd_i fun _ => br_i (fun hne => ?_) (fun heq => ?_)))
  · refine ov_i (by omega) (by omega) (bd_i (by omega) (by omega) (rd_i fun _ => ?_))
    obtain ⟨r1, r2, r3, r4, r5, r6⟩ := j3
    refine ov_i (by omega) (by omega) (bd_i (by omega) (by omega) (rd_i fun _ => ?_))
    rw [fx_a F 49 rfl]
    have hy := (r6 (w.2.1 101 k) j4 (by omega)).ext hT vE
    have ys := hy.2
    have ys0 := hy.1.szr hV.1.1
    refine g_inst hV.1 hy.1 hy.2 sub (by omega) fun t z hg hz hzs _ _ => bd_i (by omega) (by omega) (sw_i ?_)
    have hzW := (hv.sp hu (hg.sp hV)).set (g := 94) (x := 31) hu (by decide) (by decide)
    have zW := (hv.sp hu (hg.sp hV)).1
    have hE := (SP.rows (v := iA z 94 (k : Int) 31) zW (Fx_A (k := 94) rfl) rfl).2.1
    have gF := hg.2.2.1
    have zE := hg.2.1
    have z59 := fx_s gF 59 rfl
    have z60 := fx_s gF 60 rfl
    generalize hy' : iA z 94 (k : Int) 31 = y at hzW hE ⊢
    have yF : Fx fJ w y := by
      refine ((F.mono (fun g hg => fY_M g (fM_J g hg))).tr (gF.mono (fun g hg => fB_M g (fM_J g hg)))).tr ?_
      rw [← hy']; exact Fx_A (k := 94) rfl
    have yg : ∀ g, 92 ≤ g → g ≤ 113 → g ≠ 94 → y.2.1 g = w.2.1 g := fun g g1 g2 g3 => by
      rw [← hy', iA_other g3, fx_a gF g (by simp [fB]; omega), fx_a F g (by simp [fY]; omega)]
    have y94 : y.2.1 94 k = 31 := by rw [← hy', iA_same, if_pos rfl]
    have y1 : y.1 = z.1 := by rw [← hy']; rfl
    have yE : ExtT w y := (vE.tr hT zE).tr hT hE
    clear hy'
    have hr92 := hj.1.r
    have e0 := yE.1.2.1 _ hr92.1 hr92.2
    refine g_beginJob hu (hzW.wait ⟨?_, ?_⟩) (by omega) (by omega) (hz.ext zW.1.1 hE) (hzs.of hz hE (by rw [y1])) (Or.inr rfl) (by rw [y1, z59, z60, v59, v60]; exact hn) (by have := a1.2.2.2.2.2.2.1; omega) hq
    · rw [yg 92 (by decide) (by decide) (by decide)]; exact hj.ext hT yE
    · refine Or.inr (Or.inr (Or.inr (Or.inr (Or.inr (Or.inl ⟨y94, ?_, ?_, ?_, rfl, rfl⟩)))))
      · unfold Call
        rw [yg 92 (by decide) (by decide) (by decide), e0.1]; exact hc
      · exact JR.ext hT yE yF (by rw [yg 100 (by decide) (by decide) (by decide)]) (by rw [yg 101 (by decide) (by decide) (by decide)]) (by rw [yg 107 (by decide) (by decide) (by decide)]) (yg 106 (by decide) (by decide) (by decide)) ⟨j1, j2, ⟨r1, r2, r3, r4, r5, r6⟩, j4, j5⟩
      · rw [yg 101 (by decide) (by decide) (by decide), yg 100 (by decide) (by decide) (by decide), fx_a yF 48 rfl]; omega
  · refine bd_i j1 (by omega) (rd_i fun _ => ?_)
    rw [fx_a F 47 rfl]
    have hy := j3.2.2.1.ext hT vE
    have ys := hy.2
    have ys0 := hy.1.szr hV.1.1
    refine g_inst hV.1 hy.1 hy.2 sub (by omega) fun t z hg hz hzs _ _ => ?_
    have gF := hg.2.2.1
    refine g_passOn hu (hv.sp hu (hg.sp hV)) (by omega) (by omega) ?_ hz hzs (by rw [fx_s gF 59 rfl, fx_s gF 60 rfl, v59, v60]; exact hn) hq
    rw [fx_a gF 92 rfl, fx_a F 92 rfl]
    exact hj.ext hT (vE.tr hT hg.2.1)
theorem g_define {u w : iST} {k n : Nat} {R C d e : Int} {Q : iST → Prop} (hu : TI u) (hB : Bud u) (h : Wt u w (k + 1) k R R C d e) (hd : d ≤ 20) (he : e ≤ 4) (hj : TJ w (w.2.1 92 k)) (hc : Call w (w.2.1 92 k)) (hn : 5 * (w.1 59 - w.1 60) + 2 * ((k + 1 : Nat) : Int) ≤ n) (hq : ∀ (N : Nat) v, EX u N v → N < n → Q v) : w_define k Q w := by
  have a1 := h.1
  have a4 := h.2.2.2.1
  have hT := a1.1.1
  have hm := hT.2.1
  have hD := a1.1.2.1
  have hr := hj.1.r
  have bud := h.bud hB
  have hd40 := hD.2.1
  have en := g_end0 hu h hd he hj.1 (fun _ => hj.2) hn hq
  unfold w_define
  refine bd_i (by omega) (by omega) (rd_i fun _ => bd_i hr.1 (by omega) (rd_i fun _ => s_functionOf hD.1 hD.2.1 fun r hf => br_i (fun h100 => ?_) (fun _ => en)))
  have hfr := hf.r hD hc.1
  obtain ⟨dd, rfl⟩ : ∃ dd, r = 100 + dd := ⟨r - 100, by omega⟩
  rw [show 100 + dd - 100 = dd from by omega]
  have hb := (a1.2.1 dd (by omega) (by omega)).1.1.r
  refine ov_i (by omega) (by omega) (bd_i (by omega) (by omega) (rz_i fun _ => br_i (fun _ => ov_i (by omega) (by omega) (bd_i (by omega) (by omega) (rd_i fun _ => s_isCallOf hb.1 (by omega) fun r2 _ hr2 => br_i (fun _ => en) fun hz => bd_i (by omega) (by omega) (sw_i ?_)))) (fun _ => ?_)))
  · have hif := (hr2.mp hz).2
    have hv := h.set (g := 94) (x := 40) hu (by decide) (by decide)
    have hE := (SP.rows (v := iA w 94 (k : Int) 40) a1 (Fx_A (k := 94) rfl) rfl).2.1
    have vF : Fx fJ w (iA w 94 (k : Int) 40) := Fx_A (k := 94) rfl
    have v92 : (iA w 94 (k : Int) 40).2.1 92 = w.2.1 92 := iA_other (by decide)
    have v94 : (iA w 94 (k : Int) 40).2.1 94 k = 40 := by rw [iA_same, if_pos rfl]
    have v1 : (iA w 94 (k : Int) 40).1 = w.1 := rfl
    have vg : ∀ g, g ≠ 94 → (iA w 94 (k : Int) 40).2.1 g = w.2.1 g := fun g hg => iA_other hg
    generalize iA w 94 (k : Int) 40 = v at *
    have hV := hv.1
    have e0 := hE.1.2.1 _ hr.1 hr.2
    have hS : SameF w v := SameF.of vF rfl rfl rfl rfl rfl
    have c1 : Call v (w.2.1 92 k) := by unfold Call; rw [e0.1]; exact hc
    have f1 : FnOf v (v.2.1 0 (w.2.1 92 k)) (100 + dd) := by rw [e0.1]; exact hS.fn hf
    have h35 : v.1 35 = w.1 35 := by rw [v1]
    have b39 : v.2.1 0 (v.2.1 39 dd) = 3 := by rw [vg 39 (by decide), vg 0 (by decide)]; exact hif
    refine g_bodyOf hV (hj.ext hT hE) c1 (by omega) (by omega) f1 (Or.inr ⟨by decide, by decide, b39⟩) (by rw [v1]; omega) fun t z hz1 hz2 hz3 => ?_
    have gF := hz1.2.2.1
    have zW := hv.sp hu hz1
    have hrv := (hj.ext hT hE).1.r
    have e1 := hz1.2.1.1.2.1 _ hrv.1 hrv.2
    have hb2 := (hV.2.1 dd (by omega) (by omega)).1.1.r
    have e2 := hz1.2.1.1.2.1 _ hb2.1 hb2.2
    have hS2 : SameF v z := SameF.of gF rfl rfl rfl rfl rfl
    refine g_beginJob hu (zW.wait ⟨?_, ?_⟩) (by omega) (by omega) hz2 hz3 (Or.inr rfl) ?_ (by have := a1.2.2.2.2.2.2.1; omega) hq
    · rw [fx_a gF 92 rfl, v92]; exact (hj.ext hT hE).ext hV.1.1 hz1.2.1
    · refine Or.inr (Or.inr (Or.inr (Or.inr (Or.inr (Or.inr (Or.inl ⟨?_, ?_, ⟨dd, by omega, ?_, ?_, ?_⟩, rfl, rfl⟩))))))
      · rw [fx_a gF 94 rfl]; exact v94
      · unfold Call; rw [fx_a gF 92 rfl, v92, e1.1]; exact c1
      · rw [fx_s gF 35 rfl]; omega
      · rw [fx_a gF 92 rfl, v92, e1.1]; exact hS2.fn f1
      · rw [fx_a gF 39 rfl, e2.1]; exact b39
    · have z60 := hz1.2.2.2.2.2.1
      rw [fx_s gF 59 rfl]
      rw [v1] at z60 ⊢
      omega
  · refine g_bodyOf a1 hj hc (by omega) (by omega) hf (Or.inl rfl) (by omega) fun t z hz1 hz2 hz3 => ?_
    have gF := hz1.2.2.1
    refine g_passOn hu (h.sp hu hz1) (by omega) (by omega) ?_ hz2 hz3 ?_ hq
    · rw [fx_a gF 92 rfl]; exact hj.ext hT hz1.2.1
    · have z60 := hz1.2.2.2.2.2.1
      rw [fx_s gF 59 rfl]
      omega
