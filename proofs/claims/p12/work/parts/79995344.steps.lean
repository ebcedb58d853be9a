/-! the class: the stages of rewriting -/
theorem IQ_r.sw [DecidableEq Ob] {u0 u w : iST} {d : Nat} (h : IQ_r u0 d u) {j x : Int} (e : w = iA u 51 (17 * (d : Int) + j) x) (hj : 0 ≤ j ∧ j < 17 ∧ j ≠ 0 ∧ j ≠ 2 ∧ j ≠ 4) : IQ_r u0 d w ∧ (∀ i, 0 ≤ i → i < 17 → fr_r w d i = if i = j then x else fr_r u d i) ∧ RG_r [] [51] u w := by
  have q := h.set j x hj.1 hj.2.1 hj.2.2.1 hj.2.2.2.1 hj.2.2.2.2
  rw [e]
  exact ⟨q.1, q.2, (RG_r.rf h.T).A _ _ (by decide) (by decide)⟩
theorem RG_r.n [DecidableEq Ob] {R : List Nat} {u v : iST} (h : RG_r [] R u v) (k : Nat) : v.1 k = u.1 k := h.s k List.not_mem_nil
theorem IQ_r.base [DecidableEq Ob] {u0 u : iST} {d : Nat} (h : IQ_r u0 d u) : IQ_r u d u := ⟨h.1, h.2.1, h.2.2.1, h.2.2.2.1, RG_r.rf h.T, Int.le_refl _⟩
theorem IQ_r.r [DecidableEq Ob] {u0 u : iST} {d : Nat} (h : IQ_r u0 d u) : RG_r rwS_r rwR_r u0 u := h.2.2.2.2.1
theorem IQ_r.f [DecidableEq Ob] {u0 u : iST} {d : Nat} (h : IQ_r u0 d u) : FB_r u d := h.2.2.2.1
theorem IQ_r.a [DecidableEq Ob] {u0 u : iST} {d : Nat} (h : IQ_r u0 d u) : u.1 24 < u.1 29 := h.1.2.2.1
theorem q_ask_r [DecidableEq Ob] {u0 u : iST} {d : Nat} {x g r C : Int} {Q : iST → Prop} (h : IQ_r u0 d u) (hs : SV_r u d) (hP : Pt_r u0 = Po_r u0 d + C) (hc : cS_r' (fr_r u d 3) ≤ C + 1) (hx : x < u.1 29) (hr : r < u.1 29) (hq : ∀ v, StQ_r u0 v → Q v) : v_6_ask x g r Q u := by
  have e := h.end hs
  refine j_ask_r e.1 hx hr fun v hv => hq v ⟨hv.1, e.2.1.tr hv.2.1, fun z y => ?_⟩
  have := hv.2.2 z (by rw [h.r.s 27 (by decide)]; exact y)
  omega
theorem q_finish_r [DecidableEq Ob] {u0 u : iST} {d : Nat} {x C : Int} {Q : iST → Prop} (h : IQ_r u0 d u) (hP : Pt_r u0 = Po_r u0 d + C) (hc : 0 < C) (hx : x < u.1 29) (hq : ∀ v, StQ_r u0 v → Q v) : v_6_finish x Q u :=
  j_finish_r h hx fun v hv => hq v ⟨hv.1, hv.2.1, fun _ _ => by have := hv.2.2; omega⟩
theorem q_stay_r [DecidableEq Ob] {u0 u : iST} {d : Nat} {C : Int} (h : IQ_r u0 d u) (hs : SV_r u d) (hP : Pt_r u0 = Po_r u0 d + C) (hc : cS_r' (fr_r u d 3) < C) : StQ_r u0 u := by
  have e := h.end hs
  exact ⟨e.1, e.2.1, fun _ _ => by omega⟩
theorem q_bad_r [DecidableEq Ob] {u0 u : iST} {d : Nat} (h : IQ_r u0 d u) (hs : SV_r u d) (ht : u.1 32 ≠ 0) : StQ_r u0 u := by
  have e := h.end hs
  exact ⟨e.1, e.2.1, fun z => absurd z ht⟩
theorem q_instead_r [DecidableEq Ob] {u0 u : iST} {d : Nat} {x C : Int} {Q : iST → Prop} (h : IQ_r u0 d u) (hP : Pt_r u0 = Po_r u0 d + C) (hc : 4 ≤ C) (hx : x < u.1 29) (hq : ∀ v, StQ_r u0 v → Q v) : v_6_askInstead d x Q u := by
  unfold v_6_askInstead
  refine bd_i (by decide) (by decide) (sw_e_r fun w e => rd_i fun _ => ?_)
  obtain ⟨hw, wf, wr⟩ := h.sw e (by decide)
  have w3 : fr_r w d 3 = 1 := by rw [wf 3 (by decide) (by decide), if_pos rfl]
  clear e
  refine br_i (fun ht => hq w (q_bad_r hw (SV_r.t (Or.inr (Or.inl w3))) ht)) fun _ => bd_i (by decide) (by decide) (rd_i fun _ => bd_i (by decide) (by decide) (rd_i fun _ => q_ask_r hw (SV_r.t (Or.inr (Or.inl w3))) hP ?_ (wr.up hx) hw.f.2.1 hq))
  rw [w3]
  have : cS_r' 1 = 4 := by decide
  omega
theorem j_lookedUp_r [DecidableEq Ob] {u : iST} {x g r : Int} {Q : Int → iST → Prop} (hT : RT_r u) (hx : x < u.1 29) (hq : ∀ t, t < u.1 29 → (0 ≤ x → 0 ≤ t) → Q t u) : v_6_lookedUp x g r Q u := by
  have h44 := hT.1.1
  unfold v_6_lookedUp v_6_lookedUp_12
  refine lf6 (B := fun R x1 x2 x4 x5 x6 x7 u => v_6_lookedUp_12b R Q x1 x2 x4 x5 x6 x7 u) (fun x1 x2 x4 x5 x6 x7 v => x = x1 ∧ u = v ∧ -1 ≤ x6 ∧ x6 < u.1 29) (fun _ _ _ _ _ x7 _ => x7.toNat) ?_ ⟨rfl, rfl, by decide, by omega⟩
  intro x1 x2 x4 x5 x6 x7 v hI R ih
  obtain ⟨rfl, rfl, h60, h6⟩ := hI
  have k209 : ∀ y, v_6_lookedUp_209 Q x y x6 u := fun y => by
    unfold v_6_lookedUp_209
    exact br_i (fun _ => br_i (fun _ => hq x hx id) fun _ => hq x6 h6 (fun _ => by omega)) fun _ => hq 0 (by omega) (fun _ => Int.le_refl _)
  have q1 : Q 1 u := hq 1 (by omega) (fun _ => by decide)
  unfold v_6_lookedUp_12b
  refine j_isPair_r hT (fun hp => br_n (by decide) (j_left_r hT (j_item_r hT (by decide) fun b b0 b1 => ?_))) fun _ => br_y rfl (br_i (fun _ => k209 _) fun _ => br_i (fun _ => q1) fun _ => j_isBoolean_r hT fun b _ => br_i (fun _ => k209 _) fun _ => q1)
  have k172 : ∀ y4 y5 y6, -1 ≤ y6 → y6 < u.1 29 → v_6_lookedUp_172 R Q x x2 y4 y5 y6 x7 u := fun y4 y5 y6 h0 h1 => by
    unfold v_6_lookedUp_172
    refine j_right_r hT (ih _ _ _ _ _ _ _ ⟨rfl, rfl, h0, h1⟩ ?_)
    have := (eR_r_r hT x7).2.2 hp
    have := (eR_r_r hT x7).1
    omega
  have k150 : ∀ y4 s, v_6_lookedUp_150 R Q x x2 y4 x5 x6 x7 b s u := fun y4 s => by
    unfold v_6_lookedUp_150
    exact br_i (fun _ => k172 _ _ _ h60 h6) fun _ => j_isConstant_r hT fun c _ _ => br_i (fun _ => k172 _ _ _ h60 h6) fun _ => k172 _ _ _ (by omega) b1
  have k95 : ∀ y4 y, v_6_lookedUp_95 R Q x x2 y4 x6 x7 y u := fun y4 y => by
    unfold v_6_lookedUp_95
    exact k172 _ _ _ h60 h6
  have k90 : ∀ y4, v_6_lookedUp_90 R Q x x2 y4 x6 x7 u := fun y4 => by
    unfold v_6_lookedUp_90
    exact k95 _ _
  have k63 : ∀ y, v_6_lookedUp_63 R Q x x2 x5 x6 x7 (eL_r' u x7) b y u := fun y => by
    unfold v_6_lookedUp_63
    exact j_isCallOf_r hT (fun _ _ => br_n (by decide) (br_i (fun _ => k90 _) fun _ => br_i (fun _ => k95 _ _) fun _ => k90 _)) fun _ => br_y rfl (j_isCallOf_r hT (fun _ _ => br_n (by decide) (j_item_r hT (by decide) fun s s0 s1 => br_i (fun _ => k150 _ _) fun _ => j_isConstant_r hT fun c _ _ => br_i (fun _ => k150 _ _) fun _ => k172 _ _ _ (by omega) s1)) fun _ => br_y rfl (k172 _ _ _ h60 h6))
  have k58 : v_6_lookedUp_58 R Q x x2 x5 x6 x7 (eL_r' u x7) b u := by
    unfold v_6_lookedUp_58
    exact k63 1
  exact br_i (fun _ => k58) fun _ => br_i (fun _ => k63 0) fun _ => k58
theorem j_choice_r [DecidableEq Ob] {u : iST} {a b c g : Int} {Q : Int → iST → Prop} (hT : RT_r u) (ha : a < u.1 29) (hb : b < u.1 29) (hc : c < u.1 29) (hq : ∀ t v, RM_r u v → t < v.1 29 → Q t v) : v_6_choice a b c g Q u := by
  have h44 := hT.1.1
  have qa : Q a u := hq a u (RG_r.rf hT) ha
  have k35 : v_6_choice_35 Q a b c u := by
    have k57 : v_6_choice_57 Q a b c u := by
      unfold v_6_choice_57
      exact j_call_r hT (by omega) ha hb hc hq
    unfold v_6_choice_35
    exact br_i (fun _ => k57) fun _ => br_i (fun _ => k57) fun _ => j_call_r hT (by omega) ha (by omega) (by omega) hq
  unfold v_6_choice
  exact br_i (fun _ => br_i (fun _ => k35) fun _ => br_i (fun _ => k35) fun _ => br_i (fun _ => qa) fun _ => j_isBoolean_r hT fun b _ => br_i (fun _ => k35) fun _ => qa) fun _ => hq b u (RG_r.rf hT) hb
theorem j_start_r [DecidableEq Ob] {u : iST} {d : Nat} {Q : iST → Prop} (hI : IV_r u) (hd : u.1 23 = d + 1) (hs : fr_r u d 3 = 0) (hq : ∀ v, StQ_r u v → Q v) : v_6_start d Q u := by
  obtain ⟨h, _, hP⟩ := IQ_r.begin hI hd
  rw [hs] at hP
  have hP : Pt_r u = Po_r u d + 18 := hP
  have hT := h.T
  have h44 := hT.1.1
  have f0 : u.2.1 51 (17 * (d : Int) + 0) < u.1 29 := h.f.1
  unfold v_6_start
  refine bd_i (by decide) (by decide) (rd_i fun _ => j_isConstant_r hT fun b _ _ => br_i (fun _ => j_isCall_r hT (fun _ _ => br_y (by decide) ?_) fun _ => br_n (fun z => z rfl) ?_) fun _ => q_finish_r h hP (by decide) f0 hq)
  · refine j_isCallOf_r hT (fun _ _ => br_n (by decide) ?_) fun _ => br_y rfl (j_isCallOf_r hT (fun _ _ => br_n (by decide) ?_) fun _ => br_y rfl (j_isCallOf_r hT (fun _ _ => br_n (by decide) ?_) fun _ => br_y rfl ?_))
    · refine bd_i (by decide) (by decide) (sw_e_r fun w e => ?_)
      obtain ⟨hw, wf, wr⟩ := h.sw e (by decide)
      have w3 : fr_r w d 3 = 2 := by rw [wf 3 (by decide) (by decide), if_pos rfl]
      clear e
      exact j_item_r hw.T (by decide) fun b b0 b1 => bd_i (by decide) (by decide) (rd_i fun _ => q_ask_r hw (SV_r.t (Or.inr (Or.inr (Or.inl w3)))) hP (by rw [w3]; decide) b1 hw.f.2.1 hq)
    · exact j_item_r hT (by decide) fun b b0 b1 => j_call_r hT (by omega) b1 (by omega) (by omega) fun t v hv ht => j_item_r hv.1 (by decide) fun c c0 c1 => j_call_r hv.1 (by have := hv.1.1.1; omega) c1 ht (by have := hv.1.1.1; omega) fun s w hw hs => q_instead_r ((h.rm hv).rm hw) hP (by decide) hs hq
    · refine bd_i (by decide) (by decide) (sw_e_r fun w e => ?_)
      obtain ⟨hw, wf, wr⟩ := h.sw e (by decide)
      have w3 : fr_r w d 3 = 5 := by rw [wf 3 (by decide) (by decide), if_pos rfl]
      clear e
      exact j_item_r hw.T (by decide) fun b b0 b1 => bd_i (by decide) (by decide) (rd_i fun _ => q_ask_r hw (SV_r.t (Or.inr (Or.inr (Or.inr w3)))) hP (by rw [w3]; decide) b1 hw.f.2.1 hq)
    · refine j_right_r hT (bd_i (by decide) (by decide) (sw_e_r fun w e => bd_i (by decide) (by decide) (sw_e_r fun x e2 => bd_i (by decide) (by decide) (sw_e_r fun y e3 => ?_))))
      obtain ⟨hw, wf, wr⟩ := h.sw e (by decide)
      obtain ⟨hx, xf, xr⟩ := hw.sw e2 (by decide)
      obtain ⟨hy, yf, yr⟩ := hx.sw e3 (by decide)
      have y3 : fr_r y d 3 = 6 := by rw [yf 3 (by decide) (by decide), if_pos rfl]
      have y6 : fr_r y d 6 = eR_r' u (u.2.1 51 (17 * (d : Int) + 0)) := by rw [yf 6 (by decide) (by decide), if_neg (by decide), xf 6 (by decide) (by decide), if_neg (by decide), wf 6 (by decide) (by decide), if_pos rfl]
      have y10 : fr_r y d 10 = -1 := by rw [yf 10 (by decide) (by decide), if_neg (by decide), xf 10 (by decide) (by decide), if_pos rfl]
      have y29 : y.1 29 = u.1 29 := by rw [yr.n, xr.n, wr.n]
      have q := eR_r_r hT (u.2.1 51 (17 * (d : Int) + 0))
      have hm := hT.1.2
      refine hq y (q_stay_r hy ?_ hP (by rw [y3]; decide))
      unfold SV_r
      rw [y3, y6, y10, y29]
      exact ⟨fun z => by omega, fun z => by omega, fun z => by omega, fun _ => ⟨⟨q.1, q.2.1, by decide, by omega⟩, fun j j0 j1 j2 => by omega⟩, fun z y => by omega, fun z => by omega, fun z => by omega, fun z y => by omega⟩
  · exact bd_i (by decide) (by decide) (rd_i fun _ => bd_i (by decide) (by decide) (rd_i fun _ => j_lookedUp_r hT f0 fun t ht _ => q_finish_r h hP (by decide) ht hq))
theorem j_goOnWithTest_r [DecidableEq Ob] {u : iST} {d : Nat} {Q : iST → Prop} (hI : IV_r u) (hd : u.1 23 = d + 1) (hs : fr_r u d 3 = 2) (hq : ∀ v, StQ_r u v → Q v) : v_6_goOnWithTest d Q u := by
  obtain ⟨h, _, hP⟩ := IQ_r.begin hI hd
  rw [hs] at hP
  have hP : Pt_r u = Po_r u d + 4 := hP
  have hT := h.T
  unfold v_6_goOnWithTest
  refine bd_i (by decide) (by decide) (rd_i fun _ => j_item_r hT (by decide) fun y y0 y1 => bd_i (by decide) (by decide) (rd_i fun _ => j_item_r hT (by decide) fun n n0 n1 => rd_i fun _ => ?_))
  have k127 : ∀ w x, IQ_r u d w → fr_r w d 3 = 3 → fr_r w d 5 < w.1 29 → fr_r w d 6 < w.1 29 → x < w.1 29 → v_6_goOnWithTest_127 Q d x w := by
    intro w x hw w3 w5 w6 hx
    unfold v_6_goOnWithTest_127
    refine bd_i (by decide) (by decide) (rd_i fun _ => bd_i (by decide) (by decide) (rd_i fun _ => bd_i (by decide) (by decide) (rd_i fun _ => j_pair_r hw.T w5 hw.f.2.1 fun t v hv t0 t1 _ => ?_)))
    have ev : ∀ j, fr_r v d j = fr_r w d j := fun j => by unfold fr_r; rw [hv.a 51 (by decide)]
    refine q_ask_r (hw.rm hv) ?_ hP (by rw [ev, w3]; decide) (hv.up hx) t1 hq
    unfold SV_r
    rw [ev, ev, ev, w3]
    exact ⟨fun z => hv.up w5, fun z => hv.up w6, fun z => by omega, fun z => by omega, fun z y => by omega, fun z => by omega, fun z => by omega, fun z y => by omega⟩
  have k111 : ∀ w x4 y2, IQ_r u d w → w.1 29 = u.1 29 → fr_r w d 5 < w.1 29 → y2 < u.1 29 → v_6_goOnWithTest_111 Q d y n x4 d 6 y2 w := by
    intro w x4 y2 hw w29 w5 hy2
    unfold v_6_goOnWithTest_111
    refine bd_i (by decide) (by decide) (sw_e_r fun a e => bd_i (by decide) (by decide) (sw_e_r fun b e2 => ?_))
    obtain ⟨ha, af, ar⟩ := hw.sw e (by decide)
    obtain ⟨hb, bf, br⟩ := ha.sw e2 (by decide)
    have b3 : fr_r b d 3 = 3 := by rw [bf 3 (by decide) (by decide), if_pos rfl]
    have b5 : fr_r b d 5 = fr_r w d 5 := by rw [bf 5 (by decide) (by decide), if_neg (by decide), af 5 (by decide) (by decide), if_neg (by decide)]
    have b6 : fr_r b d 6 = y2 := by rw [bf 6 (by decide) (by decide), if_neg (by decide), af 6 (by decide) (by decide), if_pos rfl]
    have b29 : b.1 29 = w.1 29 := by rw [br.n, ar.n]
    exact br_i (fun _ => k127 b y hb b3 (by omega) (by omega) (by omega)) fun _ => k127 b n hb b3 (by omega) (by omega) (by omega)
  have k97 : ∀ x4 y2, y2 < u.1 29 → v_6_goOnWithTest_97 Q d y n x4 d 5 y2 u := by
    intro x4 y2 hy2
    unfold v_6_goOnWithTest_97
    refine bd_i (by decide) (by decide) (sw_e_r fun a e => ?_)
    obtain ⟨ha, af, ar⟩ := h.sw e (by decide)
    have a5 : fr_r a d 5 = y2 := by rw [af 5 (by decide) (by decide), if_pos rfl]
    have a29 : a.1 29 = u.1 29 := ar.n 29
    exact br_i (fun _ => k111 a x4 n ha a29 (by omega) n1) fun _ => k111 a x4 y ha a29 (by omega) y1
  have k52 : ∀ x, x < u.1 29 → v_6_goOnWithTest_52 Q d x u := by
    intro x hx
    unfold v_6_goOnWithTest_52
    exact q_instead_r h hP (by decide) hx hq
  exact j_isConstant_r hT fun b _ _ => br_i (fun _ => rd_i fun _ => j_isCallOf_r hT (fun _ _ => br_n (by decide) (rd_i fun _ => j_item_r hT (by decide) fun a a0 a1 => k97 _ a a1)) fun _ => br_y rfl (rd_i fun _ => k97 _ _ h.a)) fun _ => rd_i fun _ => br_i (fun _ => k52 n n1) fun _ => k52 y y1
theorem j_goOnWithThen_r [DecidableEq Ob] {u : iST} {d : Nat} {Q : iST → Prop} (hI : IV_r u) (hd : u.1 23 = d + 1) (hs : fr_r u d 3 = 3) (hq : ∀ v, StQ_r u v → Q v) : v_6_goOnWithThen d Q u := by
  obtain ⟨h, hS, hP⟩ := IQ_r.begin hI hd
  rw [hs] at hP
  have hP : Pt_r u = Po_r u d + 4 := hP
  have s5 := hS.1 (Or.inl hs)
  have s6 := hS.2.1 hs
  unfold v_6_goOnWithThen
  refine rd_i fun _ => bd_i (by decide) (by decide) (sw_e_r fun a e => bd_i (by decide) (by decide) (sw_e_r fun b e2 => ?_))
  obtain ⟨ha, af, ar⟩ := h.sw e (by decide)
  obtain ⟨hb, bf, br⟩ := ha.sw e2 (by decide)
  have b3 : fr_r b d 3 = 4 := by rw [bf 3 (by decide) (by decide), if_pos rfl]
  have b5 : fr_r b d 5 = fr_r u d 5 := by rw [bf 5 (by decide) (by decide), if_neg (by decide), af 5 (by decide) (by decide), if_neg (by decide)]
  have b6 : fr_r b d 6 = fr_r u d 6 := by rw [bf 6 (by decide) (by decide), if_neg (by decide), af 6 (by decide) (by decide), if_neg (by decide)]
  have b7 : fr_r b d 7 = u.1 24 := by rw [bf 7 (by decide) (by decide), if_neg (by decide), af 7 (by decide) (by decide), if_pos rfl]
  have b29 : b.1 29 = u.1 29 := by rw [br.n, ar.n]
  clear e e2
  have ha24 := h.a
  have sv : ∀ v, RG_r mS_r mR_r b v → SV_r v d := fun v hv => by
    have ev : ∀ j, fr_r v d j = fr_r b d j := fun j => by unfold fr_r; rw [hv.a 51 (by decide)]
    have := hv.2.1.1
    unfold SV_r
    rw [ev, ev, ev, ev, b3, b5, b7]
    exact ⟨fun z => by omega, fun z => by omega, fun z => by omega, fun z => by omega, fun z y => by omega, fun z => by omega, fun z => by omega, fun z y => by omega⟩
  have p5 : b.2.1 51 (17 * (d : Int) + 5) < b.1 29 := by
    show fr_r b d 5 < _
    omega
  refine bd_i (by decide) (by decide) (rd_i fun _ => j_negated_r hb.T p5 fun t v hv ht => rd_i fun _ => br_i (fun hz => hq v (q_bad_r (hb.rm hv) (sv v hv) hz)) fun _ => bd_i (by decide) (by decide) (rd_i fun _ => bd_i (by decide) (by decide) (rd_i fun _ => bd_i (by decide) (by decide) (rd_i fun _ => j_pair_r hv.1 ht (hb.rm hv).f.2.1 fun s w hw s0 s1 _ => ?_))))
  have ew : fr_r w d 3 = 4 := by unfold fr_r; rw [hw.a 51 (by decide), hv.a 51 (by decide)]; exact b3
  have v6 : v.2.1 51 (17 * (d : Int) + 6) < w.1 29 := by
    rw [hv.a 51 (by decide)]
    show fr_r b d 6 < _
    have := hw.2.1.1
    have := hv.2.1.1
    omega
  exact q_ask_r ((hb.rm hv).rm hw) (sv w (hv.tr hw)) hP (by rw [ew]; decide) v6 s1 hq
theorem j_goOnWithNegation_r [DecidableEq Ob] {u : iST} {d : Nat} {Q : iST → Prop} (hI : IV_r u) (hd : u.1 23 = d + 1) (hs : fr_r u d 3 = 5) (hq : ∀ v, StQ_r u v → Q v) : v_6_goOnWithNegation d Q u := by
  obtain ⟨h, hS, hP⟩ := IQ_r.begin hI hd
  rw [hs] at hP
  have hP : Pt_r u = Po_r u d + 4 := hP
  have hT := h.T
  have h44 := hT.1.1
  have k111 : ∀ v y, IQ_r u d v → y < v.1 29 → v_6_goOnWithNegation_111 Q y v := by
    intro v y hv hy
    unfold v_6_goOnWithNegation_111
    exact q_finish_r hv hP (by decide) hy hq
  have k83 : ∀ v y, IQ_r u d v → y < v.1 29 → v_6_goOnWithNegation_83 Q d y v := by
    intro v y hv hy
    unfold v_6_goOnWithNegation_83
    exact j_isConstant_r hv.T fun b _ _ => br_i (fun _ => bd_i (by decide) (by decide) (rd_i fun _ => bd_i (by decide) (by decide) (rd_i fun _ => j_lookedUp_r hv.T hy fun t ht _ => k111 v t hv ht))) fun _ => k111 v y hv hy
  have k49 : ∀ y, v_6_goOnWithNegation_49 Q d y u := by
    intro y
    unfold v_6_goOnWithNegation_49
    exact br_i (fun _ => rd_i fun _ => j_negated_r hT h.a fun t v hv ht => k83 v t (h.rm hv) ht) fun _ => rd_i fun _ => j_call_r hT (by omega) h.a (by omega) (by omega) fun t v hv ht => k83 v t (h.rm hv) ht
  have k48 : v_6_goOnWithNegation_48 Q d u := by
    unfold v_6_goOnWithNegation_48
    exact k49 0
  unfold v_6_goOnWithNegation
  exact rd_i fun _ => j_isCallOf_r hT (fun _ _ => br_n (by decide) (bd_i (by decide) (by decide) (rd_i fun _ => br_i (fun _ => k48) fun _ => rd_i fun _ => j_item_r hT (by decide) fun a _ _ => j_isBoolean_r hT fun b _ => br_i (fun _ => k48) fun _ => k49 1))) fun _ => br_y rfl k48

