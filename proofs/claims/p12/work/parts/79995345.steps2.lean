/-! the class: the stages of rewriting, further -/
theorem IQ_r.m [DecidableEq Ob] {u0 u : iST} {d : Nat} (h : IQ_r u0 d u) : 0 ≤ u.1 1 ∧ u.1 1 ≤ 60 := h.1.1.2.1.1.2.1
theorem wadd1_r [DecidableEq Ob] {x : Int} (h0 : -1 ≤ x) (h1 : x ≤ 160000) : wadd x 1 = x + 1 := by
  unfold wadd
  rw [jI_add, jI_toInt ⟨by omega, by omega⟩]
theorem j_gather_r [DecidableEq Ob] {u : iST} {d : Nat} {Q : iST → Prop} (hI : IV_r u) (hd : u.1 23 = d + 1) (hs : fr_r u d 3 = 6) (hq : ∀ v, StQ_r u v → Q v) : v_6_gather d Q u := by
  obtain ⟨h, hS, hP⟩ := IQ_r.begin hI hd
  rw [hs] at hP
  have hP : Pt_r u = Po_r u d + 16 := hP
  have hT := h.T
  have h44 := hT.1.1
  obtain ⟨⟨g1, g2, g3, g4⟩, g5⟩ := hS.2.2.2.1 hs
  have k29 : ∀ w, IQ_r u d w → w.1 29 = u.1 29 → fr_r w d 3 = 6 → fr_r w d 6 = fr_r u d 6 → fr_r w d 10 = fr_r u d 10 → (∀ j, 0 ≤ j → j < 6 → j < fr_r u d 10 + 1 → fr_r w d (11 + j) < u.1 29) → v_6_gather_29 Q d w := by
    intro w hw w29 w3 w6 w10 wo
    unfold v_6_gather_29
    have e10 : w.2.1 51 (17 * (d : Int) + 10) = fr_r u d 10 := w10
    refine bd_i (by decide) (by decide) (rd_i fun _ => ?_)
    rw [e10, wadd1_r g3 (by omega)]
    refine rd_i fun _ => bd_i (by decide) (by decide) (sw_e_r fun a e => bd_i (by decide) (by decide) (rd_i fun _ => ?_))
    obtain ⟨ha, af, ar⟩ := hw.sw e (by decide)
    have a3 : fr_r a d 3 = 6 := by rw [af 3 (by decide) (by decide), if_neg (by decide), w3]
    have a6 : a.2.1 51 (17 * (d : Int) + 6) = fr_r u d 6 := by
      show fr_r a d 6 = _
      rw [af 6 (by decide) (by decide), if_neg (by decide), w6]
    have a10 : fr_r a d 10 = fr_r u d 10 + 1 := by rw [af 10 (by decide) (by decide), if_pos rfl]
    have ao : ∀ j, 0 ≤ j → j < 6 → j < fr_r u d 10 + 1 → fr_r a d (11 + j) < u.1 29 := fun j j0 j1 j2 => by rw [af _ (by omega) (by omega), if_neg (by omega)]; exact wo j j0 j1 j2
    have a29 : a.1 29 = u.1 29 := by rw [ar.n, w29]
    clear e
    rw [a6]
    refine j_isPair_r ha.T (fun hp => br_n (by decide) (j_right_r ha.T (bd_i (by decide) (by decide) (sw_e_r fun b e => ?_)))) fun hnp => br_y rfl (bd_i (by decide) (by decide) (rd_i fun _ => ?_))
    · obtain ⟨hb, bf, br⟩ := ha.sw e (by decide)
      have b3 : fr_r b d 3 = 6 := by rw [bf 3 (by decide) (by decide), if_neg (by decide), a3]
      have b6 : fr_r b d 6 = eR_r' a (fr_r u d 6) := by rw [bf 6 (by decide) (by decide), if_pos rfl]
      have b10 : fr_r b d 10 = fr_r u d 10 + 1 := by rw [bf 10 (by decide) (by decide), if_neg (by decide), a10]
      have b29 : b.1 29 = u.1 29 := by rw [br.n, a29]
      have q := eR_r_r ha.T (fr_r u d 6)
      have q3 := q.2.2 hp
      clear e
      refine j_left_r hb.T (bd_i (by decide) (by decide) (rd_i fun _ => q_ask_r hb ?_ hP (by rw [b3]; decide) (eL_r_r hb.T _).2.1 hb.f.2.1 hq))
      unfold SV_r
      rw [b3, b6, b10, b29]
      exact ⟨fun z => by omega, fun z => by omega, fun z => by omega, fun _ => ⟨by omega, fun j j0 j1 j2 => by rw [bf _ (by omega) (by omega), if_neg (by omega)]; exact ao j j0 j1 j2⟩, fun z y => by omega, fun z => by omega, fun z => by omega, fun z y => by omega⟩
    · have e10 : a.2.1 51 (17 * (d : Int) + 10) = fr_r u d 10 + 1 := a10
      rw [e10]
      refine rd_i fun _ => ov_i (by split <;> omega) (by split <;> omega) ?_
      have hv7 : (if 6 < fr_r u d 10 + 1 then (6 : Int) else fr_r u d 10 + 1) ≤ 6 ∧ (if 6 < fr_r u d 10 + 1 then (6 : Int) else fr_r u d 10 + 1) ≤ fr_r u d 10 + 1 ∧ 0 ≤ (if 6 < fr_r u d 10 + 1 then (6 : Int) else fr_r u d 10 + 1) := by split <;> omega
      generalize (if 6 < fr_r u d 10 + 1 then (6 : Int) else fr_r u d 10 + 1) = m at *
      unfold v_6_gather_97
      refine lf3 (B := fun R x1 x3 x4 u => v_6_gather_97b R Q x1 x3 x4 u) (fun x1 x3 x4 z => (d : Int) = x1 ∧ IQ_r u d z ∧ RG_r mS_r mR_r a z ∧ x3 < z.1 29 ∧ 0 ≤ x3 ∧ -1 ≤ x4 ∧ x4 < m ∧ (z.1 32 = 0 → ∃ n : Nat, LnP_r z n x3 ∧ (n : Int) + x4 + 1 = m)) (fun _ _ x4 _ => (x4 + 1).toNat) ?_ ⟨rfl, ha, RG_r.rf ha.T, by omega, Int.le_refl _, by omega, by omega, fun _ => ⟨0, fun z => by have := (ha.T.2.1 0 z).2.2; omega, by omega⟩⟩
      intro x1 x3 x4 z hI2 R ih
      obtain ⟨rfl, hz, zr, z3, z30, z40, z4, zL⟩ := hI2
      have zf : ∀ j, fr_r z d j = fr_r a d j := fun j => by unfold fr_r; rw [zr.a 51 (by decide)]
      unfold v_6_gather_97b
      refine br_i (fun hneg => bd_i (by decide) (by decide) (rd_i fun _ => j_left_r hz.T (j_pair_r hz.T (eL_r_r hz.T _).2.1 z3 fun t v hv t0 t1 tc => bd_i (by decide) (by decide) (sw_e_r fun b e => bd_i (by decide) (by decide) (sw_e_r fun c e2 => bd_i (by decide) (by decide) (rd_i fun _ => ?_)))))) fun hge => ov_i (by omega) (by omega) (bd_i (by omega) (by omega) (rd_i fun _ => j_pair_r hz.T ?_ z3 fun t v hv t0 t1 tc => ov_i (by omega) (by omega) (ih _ _ _ _ ⟨rfl, hz.rm hv, zr.tr hv, t1, t0, by omega, by omega, fun h32 => ?_⟩ (by omega))))
      · have hv2 := hz.rm hv
        obtain ⟨hb, bf, br⟩ := hv2.sw e (by decide)
        obtain ⟨hc, cf, cr⟩ := hb.sw e2 (by decide)
        have c3 : fr_r c d 3 = 7 := by rw [cf 3 (by decide) (by decide), if_pos rfl]
        have c5 : fr_r c d 5 = t := by rw [cf 5 (by decide) (by decide), if_neg (by decide), bf 5 (by decide) (by decide), if_pos rfl]
        have c29 : c.1 29 = v.1 29 := by rw [cr.n, br.n]
        have C : Ce_r v c := br.2.1.tr cr.2.1
        clear e e2
        have sv : SV_r c d := by
          unfold SV_r
          rw [c3, c5, c29]
          refine ⟨fun z => by omega, fun z => by omega, fun z => by omega, fun z => by omega, fun z y => ⟨t1, t0⟩, fun _ h32 => ?_, fun z => by omega, fun z y => by omega⟩
          have v32 : v.1 32 = 0 := by rw [← br.n 32, ← cr.n 32]; exact h32
          obtain ⟨n, nL, nm⟩ := zL (hv.2.2.2 v32)
          rcases tc with ⟨tp, tl, tr⟩ | tc
          · refine ⟨n, by omega, ?_⟩
            rw [(C.el t1).2, tr z30]
            exact (nL.ext hz.T hv.2.1 z3).ext hv.1 C (hv.up z3)
          · exact absurd v32 tc
        have st : StQ_r u c := q_stay_r hc sv hP (by rw [c3]; decide)
        refine j_sizeOf_r hc.T fun b _ _ => br_i (fun _ => hq c st) fun _ => j_blame_r hc.T (by decide) fun g hg g32 => hq g (q_bad_r (hc.rm hg) ?_ g32)
        exact sv.ext hc.T hg.2.1 hg.2.2.2 (hg.s 1 (by decide)) (hg.a 7 (by decide)) (fun j _ _ => by unfold fr_r; rw [hg.a 51 (by decide)])
      · show fr_r z d (11 + x4) < z.1 29
        rw [zf]
        have := ao x4 (by omega) (by omega) (by omega)
        have := zr.2.1.1
        omega
      · obtain ⟨n, nL, nm⟩ := zL (hv.2.2.2 h32)
        rcases tc with ⟨tp, tl, tr⟩ | tc
        · refine ⟨n + 1, ⟨tp, ?_⟩, by omega⟩
          rw [tr z30]
          exact nL.ext hz.T hv.2.1 z3
        · exact absurd h32 tc
  unfold v_6_gather
  have e10 : u.2.1 51 (17 * (d : Int) + 10) = fr_r u d 10 := rfl
  refine bd_i (by decide) (by decide) (rd_i fun _ => ?_)
  rw [e10]
  refine br_i (fun hneg => k29 u h rfl hs rfl rfl (fun j j0 j1 j2 => by omega)) fun h0 => bd_i (by decide) (by decide) (rd_i fun _ => br_i (fun h6 => k29 u h rfl hs rfl rfl (fun j j0 j1 j2 => g5 j j0 j1 (by omega))) fun h6 => bd_i (by decide) (by decide) (rd_i fun _ => ov_i (by omega) (by omega) (rd_i fun _ => bd_i (by omega) (by omega) (sw_e_r fun w e => ?_))))
  obtain ⟨hw, wf, wr⟩ := h.sw e (by omega)
  have ha := h.a
  refine k29 w hw (wr.n 29) (by rw [wf 3 (by decide) (by decide), if_neg (by omega), hs]) (by rw [wf 6 (by decide) (by decide), if_neg (by omega)]) (by rw [wf 10 (by decide) (by decide), if_neg (by omega)]) (fun j j0 j1 j2 => ?_)
  rw [wf _ (by omega) (by omega)]
  by_cases ej : j = fr_r u d 10
  · rw [if_pos (by omega)]; exact ha
  · rw [if_neg (by omega)]; exact g5 j j0 j1 (by omega)
theorem j_compute_r [DecidableEq Ob] {u : iST} {d : Nat} {Q : iST → Prop} (hI : IV_r u) (hd : u.1 23 = d + 1) (hs : fr_r u d 3 = 7) (h32 : u.1 32 = 0) (hq : ∀ v, StQ_r u v → Q v) : v_6_compute d Q u := by
  obtain ⟨h, hS, hP⟩ := IQ_r.begin hI hd
  rw [hs] at hP
  have hP : Pt_r u = Po_r u d + 14 := hP
  have hT := h.T
  have h44 := hT.1.1
  obtain ⟨m1, m0⟩ := hS.2.2.2.2.1 (by omega) (by omega)
  obtain ⟨n, n6, nL⟩ := hS.2.2.2.2.2.1 hs h32
  have sv : ∀ w, w.1 29 ≥ u.1 29 → fr_r w d 5 = fr_r u d 5 → (8 ≤ fr_r w d 3 ∧ fr_r w d 3 ≤ 10) → SV_r w d := fun w w29 w5 w3 => SV_r.m (by omega) (by omega) (by omega)
  have k119 : ∀ w x, IQ_r u d w → fr_r w d 5 = fr_r u d 5 → (8 ≤ fr_r w d 3 ∧ fr_r w d 3 ≤ 10) → x < w.1 29 → v_6_compute_119 Q x w := by
    intro w x hw w5 w3 hx
    unfold v_6_compute_119
    refine br_i (fun _ => hq w (q_stay_r hw (sv w hw.r.2.1.1 w5 w3) hP ?_)) fun _ => j_constantOf_r hw.T hx fun t v hv ht => q_finish_r (hw.rm hv) hP (by decide) ht hq
    unfold cS_r'
    rw [if_neg (by omega), if_neg (by omega), if_neg (by omega), if_pos (by omega)]
    decide
  have k38 : ∀ y, (8 ≤ y ∧ y ≤ 10) → v_6_compute_38 Q (fr_r u d 5) (eL_r' u (fr_r u d 5)) d 3 y u := by
    intro y hy
    unfold v_6_compute_38
    refine bd_i (by decide) (by decide) (sw_e_r fun w e => ?_)
    obtain ⟨hw, wf, wr⟩ := h.sw e (by decide)
    have w3 : fr_r w d 3 = y := by rw [wf 3 (by decide) (by decide), if_pos rfl]
    have w5 : fr_r w d 5 = fr_r u d 5 := by rw [wf 5 (by decide) (by decide), if_neg (by decide)]
    have w29 : w.1 29 = u.1 29 := wr.n 29
    clear e
    have e5 := wr.2.1.el m1
    refine j_isOfConstants_r hw.T (br_n (fun z => z rfl) (hq w (q_stay_r hw (sv w (by omega) w5 (by omega)) hP ?_))) fun hc => br_y (by decide) (br_i (fun h16 => ?_) fun h16 => ?_)
    · unfold cS_r'
      rw [if_neg (by omega), if_neg (by omega), if_neg (by omega), if_pos (by omega)]
      decide
    · have wL : LnP_r w n (eR_r' w (fr_r u d 5)) := by rw [e5.2]; exact nL.ext hT wr.2.1 (eR_r_r hT _).2.1
      have wf5 : WF_r w (fr_r u d 5) := WF_r.mk ⟨by omega, fun _ _ => ⟨n, ⟨n6, fun _ z => by rw [e5.1] at z; omega⟩, wL, (hc n wL).mono (fun y hy => WF_r.at hy.1 hy.2)⟩⟩
      refine j_evaluated_r hw.T hw.1.1.2.1 m0 wf5 (by decide) fun t v hv ht => k119 v t (hw.ev hv) (by unfold fr_r; rw [hv.a 51 (by decide)]; exact w5) (by unfold fr_r; rw [hv.a 51 (by decide)]; show 8 ≤ fr_r w d 3 ∧ fr_r w d 3 ≤ 10; omega) ht
    · refine j_item_r hw.T (by decide) fun a a0 a1 => j_valueOf_r hw.T a1 fun b b1 _ => j_item_r hw.T (by decide) fun c c0 c1 => j_valueOf_r hw.T c1 fun e e1 _ => j_baseValue_r hw.T (fun _ => ⟨e1, by omega⟩) (fun _ => ⟨b1, e1⟩) fun t v hv ht => k119 v t (hw.rm hv) (by unfold fr_r; rw [hv.a 51 (by decide)]; exact w5) (by unfold fr_r; rw [hv.a 51 (by decide)]; show 8 ≤ fr_r w d 3 ∧ fr_r w d 3 ≤ 10; omega) ht
  unfold v_6_compute
  exact bd_i (by decide) (by decide) (rd_i fun _ => j_left_r hT (br_i (fun _ => br_i (fun _ => k38 10 (by decide)) fun _ => k38 9 (by decide)) fun _ => k38 8 (by decide)))
/-- LOOK_UP comes next -/
theorem q_look_r [DecidableEq Ob] {u0 u : iST} {d : Nat} {Q : iST → Prop} (h : IQ_r u0 d u) (hP : Pt_r u0 = Po_r u0 d + 12) (h5 : fr_r u d 5 < u.1 29) (h50 : 0 ≤ fr_r u d 5) (hq : ∀ v, StQ_r u0 v → Q v) : bd 3 17 (sw (iA u 51 (17 * (d : Int) + 3) 11) fun u => Q u) := by
  refine bd_i (by decide) (by decide) (sw_e_r fun w e => ?_)
  obtain ⟨hw, wf, wr⟩ := h.sw e (by decide)
  have w3 : fr_r w d 3 = 11 := by rw [wf 3 (by decide) (by decide), if_pos rfl]
  have w5 : fr_r w d 5 = fr_r u d 5 := by rw [wf 5 (by decide) (by decide), if_neg (by decide)]
  exact hq w (q_stay_r hw (SV_r.m (by omega) (by rw [w5, wr.n]; exact h5) (by omega)) hP (by rw [w3]; decide))
theorem j_reduceEqual_r [DecidableEq Ob] {u : iST} {d : Nat} {a b : Int} {Q : iST → Prop} (hI : IV_r u) (hd : u.1 23 = d + 1) (hs : fr_r u d 3 = 8) (ha : a < u.1 29) (hb : b < u.1 29) (hq : ∀ v, StQ_r u v → Q v) : v_6_reduceEqual d a b Q u := by
  obtain ⟨h, hS, hP⟩ := IQ_r.begin hI hd
  rw [hs] at hP
  have hP : Pt_r u = Po_r u d + 12 := hP
  have hT := h.T
  have h44 := hT.1.1
  obtain ⟨m1, m0⟩ := hS.2.2.2.2.1 (by omega) (by omega)
  have k185 : v_6_reduceEqual_185 Q d u := by
    unfold v_6_reduceEqual_185
    exact q_look_r h hP m1 m0 hq
  have k146 : ∀ x, x < u.1 29 → v_6_reduceEqual_146 Q d x u := by
    intro x hx
    unfold v_6_reduceEqual_146
    exact j_isConstant_r hT fun b _ _ => br_i (fun _ => k185) fun _ => j_valueOf_r hT hx fun t ht _ => j_isPair_r hT (fun _ => br_y (by decide) k185) fun _ => br_n (fun z => z rfl) (q_finish_r h hP (by decide) (by omega) hq)
  have k136 : ∀ x4 x5 x, x < u.1 29 → v_6_reduceEqual_136 Q d x4 x5 x u := by
    intro x4 x5 x hx
    unfold v_6_reduceEqual_136
    exact br_i (fun _ => k146 x hx) fun _ => br_i (fun _ => k185) fun _ => k146 x hx
  have k32 : ∀ x4 x5 x, x < u.1 29 → v_6_reduceEqual_32 Q d a b x4 x5 x u := by
    intro x4 x5 x hx
    unfold v_6_reduceEqual_32
    refine br_i (fun _ => br_i (fun _ => k136 _ _ _ hx) fun _ => br_i (fun _ => k136 _ _ _ hx) fun _ => ?_) fun _ => q_finish_r h hP (by decide) (by omega) hq
    refine j_item_r hT (by decide) fun p p0 p1 => j_item_r hT (by decide) fun q q0 q1 => j_call_r hT (by omega) p1 q1 (by omega) fun r v hv hr => ?_
    have v44 := hv.1.1.1
    refine j_item_r hv.1 (by decide) fun s s0 s1 => j_item_r hv.1 (by decide) fun t t0 t1 => j_call_r hv.1 (by omega) s1 t1 (by omega) fun x w hw hx => ?_
    have w44 := hw.1.1.1
    exact j_call_r hw.1 (by omega) (hw.up hr) hx (by omega) fun y z hz hy => q_instead_r (((h.rm hv).rm hw).rm hz) hP (by decide) hy hq
  unfold v_6_reduceEqual
  exact j_isCallOf_r hT (fun _ _ => j_isCallOf_r hT (fun _ _ => br_n (by decide) (k32 _ _ _ hb)) fun _ => br_n (by decide) (k32 _ _ _ hb)) fun _ => j_isCallOf_r hT (fun _ _ => br_y rfl (k32 _ _ _ ha)) fun _ => br_y rfl (k32 _ _ _ ha)
theorem j_reduceLess_r [DecidableEq Ob] {u : iST} {d : Nat} {a b : Int} {Q : iST → Prop} (hI : IV_r u) (hd : u.1 23 = d + 1) (hs : fr_r u d 3 = 9) (ha : a < u.1 29) (hb : b < u.1 29) (hq : ∀ v, StQ_r u v → Q v) : v_6_reduceLess d a b Q u := by
  obtain ⟨h, hS, hP⟩ := IQ_r.begin hI hd
  rw [hs] at hP
  have hP : Pt_r u = Po_r u d + 12 := hP
  have hT := h.T
  have h44 := hT.1.1
  obtain ⟨m1, m0⟩ := hS.2.2.2.2.1 (by omega) (by omega)
  have k240 : v_6_reduceLess_240 Q d u := by
    unfold v_6_reduceLess_240
    exact q_look_r h hP m1 m0 hq
  have k119 : v_6_reduceLess_119 Q u := by
    unfold v_6_reduceLess_119
    exact q_finish_r h hP (by decide) (by omega) hq
  unfold v_6_reduceLess
  refine j_item_r hT (by decide) fun p p0 p1 => j_item_r hT (by decide) fun w w0 w1 => ?_
  have k173 : v_6_reduceLess_173 Q d a b p u := by
    unfold v_6_reduceLess_173
    refine j_isCallOf_r hT (fun _ _ => br_n (by decide) (br_i (fun _ => k240) fun _ => j_item_r hT (by decide) fun s s0 s1 => j_numberOf_r hT fun t _ _ => br_i (fun _ => k240) fun _ => j_made_r hT (CellOk_n (Int.le_refl 0) (by decide)) fun x v hv x0 x1 _ => ?_)) fun _ => br_y rfl k240
    have v44 := hv.1.1.1
    exact j_call_r hv.1 (by omega) x1 (hv.up hb) (by omega) fun y z hz hy => q_instead_r ((h.rm hv).rm hz) hP (by decide) hy hq
  have k127 : ∀ x6 x7, v_6_reduceLess_127 Q d a b p w x6 x7 u := by
    intro x6 x7
    unfold v_6_reduceLess_127
    exact br_i (fun _ => k173) fun _ => br_i (fun _ => k173) fun _ => j_item_r hT (by decide) fun s _ _ => br_i (fun _ => k173) fun _ => j_call_r hT (by omega) w1 (by omega) (by omega) fun y z hz hy => q_instead_r (h.rm hz) hP (by decide) hy hq
  have k88 : ∀ x6 y, v_6_reduceLess_88 Q d a b p w x6 y u := by
    intro x6 y
    unfold v_6_reduceLess_88
    exact br_i (fun _ => k119) fun _ => j_isNatural_r hT fun b _ _ => br_i (fun _ => k127 _ _) fun _ => j_numberOf_r hT fun t _ _ => br_i (fun _ => k127 _ _) fun _ => k119
  have k87 : ∀ x6, v_6_reduceLess_87 Q d a b p w x6 u := by
    intro x6
    unfold v_6_reduceLess_87
    exact k88 _ _
  have k55 : ∀ x6, v_6_reduceLess_55 Q d a b p w x6 u := by
    intro x6
    unfold v_6_reduceLess_55
    exact j_isCallOf_r hT (fun _ _ => br_n (by decide) (j_isCallOf_r hT (fun _ _ => br_n (by decide) (k88 _ _)) fun _ => br_y rfl (k87 _))) fun _ => br_y rfl (k87 _)
  have k50 : v_6_reduceLess_50 Q d a b p w u := by
    unfold v_6_reduceLess_50
    exact k55 1
  exact j_isCallOf_r hT (fun _ _ => br_y (by decide) k50) fun _ => br_n (fun z => z rfl) (j_isCallOf_r hT (fun _ _ => br_n (by decide) k50) fun _ => br_y rfl (k55 0))
theorem j_reduceOther_r [DecidableEq Ob] {u : iST} {d : Nat} {a b : Int} {Q : iST → Prop} (hI : IV_r u) (hd : u.1 23 = d + 1) (hs : fr_r u d 3 = 10) (hq : ∀ v, StQ_r u v → Q v) : v_6_reduceOther d a b Q u := by
  obtain ⟨h, hS, hP⟩ := IQ_r.begin hI hd
  rw [hs] at hP
  have hP : Pt_r u = Po_r u d + 12 := hP
  have hT := h.T
  have h44 := hT.1.1
  obtain ⟨m1, m0⟩ := hS.2.2.2.2.1 (by omega) (by omega)
  have k168 : v_6_reduceOther_168 Q d u := by
    unfold v_6_reduceOther_168
    exact q_look_r h hP m1 m0 hq
  have k154 : ∀ y, v_6_reduceOther_154 Q a y u := by
    intro y
    unfold v_6_reduceOther_154 v_6_reduceOther_162
    exact br_i (fun _ => q_finish_r h hP (by decide) (by omega) hq) fun _ => q_finish_r h hP (by decide) (by omega) hq
  have k140 : ∀ y, v_6_reduceOther_140 Q a y u := by
    intro y
    unfold v_6_reduceOther_140
    exact br_i (fun _ => k154 _) fun _ => k154 _
  have k125 : ∀ x4 x5 x6, v_6_reduceOther_125 Q d a x4 x5 x6 u := by
    intro x4 x5 x6
    unfold v_6_reduceOther_125
    exact br_i (fun _ => k168) fun _ => br_i (fun _ => k140 _) fun _ => br_i (fun _ => k168) fun _ => k140 _
  have k99 : v_6_reduceOther_99 Q a b u := by
    unfold v_6_reduceOther_99 v_6_reduceOther_116
    exact br_i (fun _ => j_item_r hT (by decide) fun t _ ht => q_finish_r h hP (by decide) ht hq) fun _ => j_item_r hT (by decide) fun t _ ht => q_finish_r h hP (by decide) ht hq
  have k80 : ∀ x4 x5 y, v_6_reduceOther_80 Q d a b x4 x5 y u := by
    intro x4 x5 y
    unfold v_6_reduceOther_80
    exact br_i (fun _ => k125 _ _ _) fun _ => br_i (fun _ => k99) fun _ => br_i (fun _ => k125 _ _ _) fun _ => k99
  have k75 : ∀ x4 x5, v_6_reduceOther_75 Q d a b x4 x5 u := by
    intro x4 x5
    unfold v_6_reduceOther_75
    exact k80 _ _ _
  have k55 : ∀ x4 y, v_6_reduceOther_55 Q d a b x4 y u := by
    intro x4 y
    unfold v_6_reduceOther_55
    exact br_i (fun _ => k75 _ _) fun _ => br_i (fun _ => k75 _ _) fun _ => br_i (fun _ => k80 _ _ _) fun _ => k75 _ _
  have k50 : ∀ x4, v_6_reduceOther_50 Q d a b x4 u := by
    intro x4
    unfold v_6_reduceOther_50
    exact k55 _ _
  have k : ∀ v1, v_7_isCallOf b 7 (fun v2 u => br (v2 ≠ 0) (v_6_reduceOther_50 Q d a b v1 u) (v_7_isCallOf b 8 (fun v6 u => br (v6 ≠ 0) (v_6_reduceOther_50 Q d a b v1 u) (v_7_isCallOf b 15 (fun v7 u => br (v7 = 0) (v_6_reduceOther_55 Q d a b v1 0 u) (v_6_reduceOther_50 Q d a b v1 u)) u)) u)) u := fun v1 => j_isCallOf_r hT (fun _ _ => br_y (by decide) (k50 _)) fun _ => br_n (fun z => z rfl) (j_isCallOf_r hT (fun _ _ => br_y (by decide) (k50 _)) fun _ => br_n (fun z => z rfl) (j_isCallOf_r hT (fun _ _ => br_n (by decide) (k50 _)) fun _ => br_y rfl (k55 _ _)))
  unfold v_6_reduceOther
  exact j_isCallOf_r hT (fun _ _ => k 1) fun _ => k 0
theorem j_lookUp_r [DecidableEq Ob] {u : iST} {d : Nat} {Q : iST → Prop} (hI : IV_r u) (hd : u.1 23 = d + 1) (hs : fr_r u d 3 = 11) (hq : ∀ v, StQ_r u v → Q v) : v_6_lookUp d Q u := by
  obtain ⟨h, hS, hP⟩ := IQ_r.begin hI hd
  rw [hs] at hP
  have hP : Pt_r u = Po_r u d + 10 := hP
  have hT := h.T
  obtain ⟨m1, m0⟩ := hS.2.2.2.2.1 (by omega) (by omega)
  have h25 := h.1.2.2.2.1
  have hm := h.m
  unfold v_6_lookUp
  refine bd_i (by decide) (by decide) (rd_i fun _ => bd_i (by decide) (by decide) (rd_i fun _ => bd_i (by decide) (by decide) (rd_i fun _ => j_lookedUp_r hT m1 fun t ht _ => bd_i (by decide) (by decide) (rd_i fun _ => br_i (fun _ => bd_i (by decide) (by decide) (sw_e_r fun w e => rd_i fun _ => ?_)) fun _ => q_finish_r h hP (by decide) ht hq))))
  obtain ⟨hw, wf, wr⟩ := h.sw e (by decide)
  have w25 : w.1 25 = u.1 25 := wr.n 25
  rw [w25]
  refine ov_i (by omega) (by omega) (bd_i (by decide) (by decide) (sw_e_r fun x e2 => ?_))
  obtain ⟨hx, xf, xr⟩ := hw.sw e2 (by decide)
  have x3 : fr_r x d 3 = 12 := by rw [xf 3 (by decide) (by decide), if_neg (by decide), wf 3 (by decide) (by decide), if_pos rfl]
  have x5 : fr_r x d 5 = fr_r u d 5 := by rw [xf 5 (by decide) (by decide), if_neg (by decide), wf 5 (by decide) (by decide), if_neg (by decide)]
  have x8 : fr_r x d 8 = u.1 25 - 1 := by rw [xf 8 (by decide) (by decide), if_pos rfl]
  exact hq x (q_stay_r hx (SV_r.s12 x3 (by rw [x5, xr.n, wr.n]; exact m1) (by omega) (by rw [x8, xr.n, wr.n]; omega)) hP (by rw [x3]; decide))

