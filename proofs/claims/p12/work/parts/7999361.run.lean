/-! the class: what becomes of a command; run -/
/-- nothing is given: nothing is to be proved -/
theorem j_prove0 {u : iST} {Q : iST → Prop} (hT : RT u) (h13 : u.1 13 ≤ 0) (hq : ∀ v, RG [15, 16] [] u v → v.1 15 = 0 → Q v) : v_4_prove 0 Q u := by
  unfold v_4_prove
  refine zt_0 (sw_e fun w e => sw_e fun v e2 => ?_)
  have vr : RG [15, 16] [] u v := by rw [e2, e]; exact ((RG.rf hT).I _ (by decide) (by decide) (by decide)).I _ (by decide) (by decide) (by decide)
  have v15 : v.1 15 = 0 := by rw [e2]; rfl
  clear e e2
  unfold v_4_prove_12
  refine lf1 (B := fun R x2 u => v_4_prove_12b R Q x2 u) (fun x2 w => x2 = 0 ∧ v = w) (fun _ _ => 0) ?_ ⟨rfl, rfl⟩
  intro x2 w hI R _
  obtain ⟨rfl, rfl⟩ := hI
  unfold v_4_prove_12b
  exact rd_i fun _ => br_y (by rw [vr.s 13 (by decide)]; exact h13) (hq v vr v15)
theorem j_shownWrong {u : iST} {G : Int → Prop} {Q : Int → iST → Prop} (hT : RT u) (hL : CV (fun _ => False) u) (hC : u.1 12 = -1 → CV G u ∧ G (u.2.1 57 0)) (hq : ∀ r v, RM u v → Q r v) : v_11_shownWrong Q u := by
  unfold v_11_shownWrong
  refine bd_i (by decide) (by decide) (rc_i fun hc => ?_)
  unfold v_11_shownWrong_14
  refine lf3 (B := fun R x1 x2 x3 u => v_11_shownWrong_14b R Q x1 x2 x3 u) (fun x1 x2 x3 v => u.2.1 57 0 = x1 ∧ u = v ∧ 0 ≤ x2 ∧ x2 ≤ x3) (fun _ _ x3 _ => (30 - x3).toNat) ?_ ⟨rfl, rfl, Int.le_refl _, Int.le_refl _⟩
  intro x1 x2 x3 v hI R ih
  obtain ⟨rfl, rfl, p2, p3⟩ := hI
  have ln := (hL _ hc.1 hc.2).1
  unfold v_11_shownWrong_14b
  refine rd_i fun _ => br_i (fun _ => rd_i fun _ => br_i (fun h12 => br_i (fun _ => hq _ u (RG.rf hT)) fun _ => ?_) fun _ => rd_i fun _ => hq _ u (RG.rf hT)) fun hlt => bd_i (by omega) (by omega) (rd_i fun _ => rd_i fun _ => br_i (fun _ => ov_i (by omega) (by omega) (ov_i (by omega) (by omega) (ih _ _ _ _ ⟨rfl, rfl, by omega, by omega⟩ (by omega)))) fun _ => ov_i (by omega) (by omega) (ov_i (by omega) (by omega) (ih _ _ _ _ ⟨rfl, rfl, by omega, by omega⟩ (by omega))))
  obtain ⟨a, b⟩ := hC h12
  exact j_listOf hT a hc.1 hc.2 b fun t v hv _ => hq t v hv
/-- a function is taken -/
theorem j_takeFun {u : iST} {n p a c d m : Int} {Q : iST → Prop} (h : HJ u) (h0 : u.1 0 < 40) (hn : 16 < n ∧ n < m) (hp : p < m) (ha : 0 ≤ a ∧ a ≤ 6) (hc : 0 ≤ c ∧ c < m) (hw : WF u c) (hd : d < m) (hm : u.1 3 ≤ m) (hm1 : m ≤ u.1 29) (hq : ∀ v, HJ v → v.1 43 = u.1 43 → v.1 42 = u.1 42 → Q v) : v_0_addFunction n p a c d (fun u => v_0_enter 1 m (fun u => Q u) u) u := by
  have hB := h.1.2.1
  have hT := h.1.1
  have n0 := hB.n0
  have u2 := hB.1
  have u1 := hB.2.2.2.2.2.1
  have u0 := hB.2.2.2.2.1
  unfold v_0_addFunction
  refine rd_i fun _ => br_n (by omega) (rd_i fun _ => bd_i (by omega) (by omega) (sw_e fun w0 e0 => rd_i fun _ => ?_))
  have w00 : w0.1 0 = u.1 0 := by rw [e0]; rfl
  rw [w00]
  refine bd_i (by omega) (by omega) (sw_e fun w1 e1 => rd_i fun _ => ?_)
  have w10 : w1.1 0 = u.1 0 := by rw [e1, ← w00]; rfl
  rw [w10]
  refine bd_i (by omega) (by omega) (sw_e fun w2 e2 => rd_i fun _ => ?_)
  have w20 : w2.1 0 = u.1 0 := by rw [e2, ← w10]; rfl
  rw [w20]
  refine bd_i (by omega) (by omega) (sw_e fun w3 e3 => rd_i fun _ => ?_)
  have w30 : w3.1 0 = u.1 0 := by rw [e3, ← w20]; rfl
  rw [w30]
  refine bd_i (by omega) (by omega) (sw_e fun w4 e4 => rd_i fun _ => ?_)
  have w40 : w4.1 0 = u.1 0 := by rw [e4, ← w30]; rfl
  rw [w40]
  refine ov_i (by omega) (by omega) (sw_e fun w5 e5 => ?_)
  unfold v_0_enter
  have w52 : w5.1 2 = u.1 2 := by rw [e5, e4, e3, e2, e1, e0]; rfl
  refine rd_i fun _ => br_n (by omega) (rd_i fun _ => ?_)
  rw [w52]
  refine bd_i (by omega) (by omega) (sw_e fun w6 e6 => rd_i fun _ => rd_i fun _ => ?_)
  have w62 : w6.1 2 = u.1 2 := by rw [e6, ← w52]; rfl
  have w63 : w6.1 3 = u.1 3 := by rw [e6, e5, e4, e3, e2, e1, e0]; rfl
  rw [w62, w63]
  refine bd_i (by omega) (by omega) (sw_e fun w7 e7 => rd_i fun _ => ?_)
  have w72 : w7.1 2 = u.1 2 := by rw [e7, ← w62]; rfl
  rw [w72]
  refine ov_i (by omega) (by omega) (sw_e fun w8 e8 => sw_e fun v e9 => ?_)
  have vg : RG [0, 2, 3] [0, 1, 2, 3, 4, 14, 15] u v := by
    rw [e9, e8, e7, e6, e5, e4, e3, e2, e1, e0]
    exact ((((((((((RG.rf hT).A _ _ (by decide) (by decide)).A _ _ (by decide) (by decide)).A _ _ (by decide) (by decide)).A _ _ (by decide) (by decide)).A _ _ (by decide) (by decide)).I _ (by decide) (by decide) (by decide)).A _ _ (by decide) (by decide)).A _ _ (by decide) (by decide)).I _ (by decide) (by decide) (by decide)).I _ (by decide) (by decide) (by decide)
  have v0 : v.1 0 = u.1 0 + 1 := by rw [e9, e8, e7, e6, e5]; rfl
  have v2 : v.1 2 = u.1 2 + 1 := by rw [e9, e8]; rfl
  have v3 : v.1 3 = m := by rw [e9]; rfl
  have r0 : ∀ i, v.2.1 0 i = if i = u.1 0 then n else u.2.1 0 i := fun i => by rw [e9, e8, e7, e6, e5, e4, e3, e2, e1, e0]; rfl
  have r1 : ∀ i, v.2.1 1 i = if i = u.1 0 then p else u.2.1 1 i := fun i => by rw [e9, e8, e7, e6, e5, e4, e3, e2, e1, e0]; rfl
  have r2 : ∀ i, v.2.1 2 i = if i = u.1 0 then a else u.2.1 2 i := fun i => by rw [e9, e8, e7, e6, e5, e4, e3, e2, e1, e0]; rfl
  have r3 : ∀ i, v.2.1 3 i = if i = u.1 0 then c else u.2.1 3 i := fun i => by rw [e9, e8, e7, e6, e5, e4, e3, e2, e1, e0]; rfl
  have r4 : ∀ i, v.2.1 4 i = if i = u.1 0 then d else u.2.1 4 i := fun i => by rw [e9, e8, e7, e6, e5, e4, e3, e2, e1, e0]; rfl
  have r14 : ∀ i, v.2.1 14 i = if i = u.1 2 then 1 else u.2.1 14 i := fun i => by rw [e9, e8, e7, e6, e5, e4, e3, e2, e1, e0]; rfl
  have r15 : ∀ i, v.2.1 15 i = if i = u.1 2 then u.1 3 else u.2.1 15 i := fun i => by rw [e9, e8, e7, e6, e5, e4, e3, e2, e1, e0]; rfl
  clear e0 e1 e2 e3 e4 e5 e6 e7 e8 e9
  have v29 : v.1 29 = u.1 29 := vg.s 29 (by decide)
  have vB : BL v := hB.ent (m := m) (k := 1) hT vg.2.1 (by omega) v2 v3 r14 r15 hm (by omega) (Or.inl ⟨rfl, v0, vg.s 1 (by decide), h0, by rw [r0, if_pos rfl]; exact hn, by rw [r1, if_pos rfl]; exact hp, by rw [r2, if_pos rfl]; exact ha, by rw [r3, if_pos rfl]; exact hc, by rw [r3, if_pos rfl]; exact hw.ext hT vg.2.1, by rw [r4, if_pos rfl]; exact hd⟩) (fun f hf => by have hf := hf.resolve_right (fun z => z rfl); rw [r0, r1, r2, r3, r4, if_neg hf, if_neg hf, if_neg hf, if_neg hf, if_neg hf]; exact ⟨rfl, rfl, rfl, rfl, rfl⟩) (fun t _ => by rw [vg.a 5 (by decide), vg.a 6 (by decide), vg.a 7 (by decide), vg.a 8 (by decide), vg.a 9 (by decide), vg.a 50 (by decide)]; exact ⟨rfl, rfl, rfl, rfl, rfl, fun _ _ _ => rfl⟩)
  obtain ⟨hJ, hP⟩ := h
  refine hq v ⟨hJ.gb vg (by decide) vB (hJ.2.2.1.keep (vg.a 54 (by decide))) (by rw [vg.s 39 (by decide)]; exact hJ.2.2.2.1) (hJ.2.2.2.2.2.1.rg vg (by decide) (by decide)) (by rw [vg.s 33 (by decide)]; exact hJ.2.2.2.2.2.2.1) (by rw [vg.s 13 (by decide)]; exact hJ.2.2.2.2.2.2.2.1) (by rw [vg.s 14 (by decide)]; exact hJ.2.2.2.2.2.2.2.2.1) (by rw [vg.s 15 (by decide)]; exact hJ.2.2.2.2.2.2.2.2.2.1), fun z => (hP (by rw [← vg.s 50 (by decide)]; exact z)).rg vg (by decide) (by decide)⟩ (vg.s 43 (by decide)) (vg.s 42 (by decide))
/-- a theorem is taken -/
theorem j_takeThm {u : iST} {n f m k : Int} {Q K : iST → Prop} (hK : ∀ c, v_0_enter k m (fun u => Q u) c → K c) (h : HJ u) (h1 : u.1 1 < 60) (hk : k ≠ 1) (hn : n < m) (hf : f < m) (hm : u.1 3 ≤ m) (hm1 : m ≤ u.1 29) (hq : ∀ v, HJ v → v.1 43 = u.1 43 → v.1 42 = u.1 42 → Q v) : v_0_addTheorem n f (fun u => v_6_learn (fun u => K u) u) u := by
  have hB := h.1.2.1
  have hT := h.1.1
  have n0 := hB.n0
  have u2 := hB.1
  have u1 := hB.2.2.2.2.2.1
  have u0 := hB.2.2.2.2.1
  have k44 := hB.k44
  unfold v_0_addTheorem
  refine rd_i fun _ => br_n (by omega) (rd_i fun _ => bd_i (by omega) (by omega) (sw_e fun w0 e0 => rd_i fun _ => ?_))
  have w00 : w0.1 1 = u.1 1 := by rw [e0]; rfl
  rw [w00]
  refine bd_i (by omega) (by omega) (sw_e fun w1 e1 => rd_i fun _ => ?_)
  have w10 : w1.1 1 = u.1 1 := by rw [e1, ← w00]; rfl
  rw [w10]
  refine bd_i (by omega) (by omega) (sw_e fun w2 e2 => rd_i fun _ => zt_0 ?_)
  have w20 : w2.1 1 = u.1 1 := by rw [e2, ← w10]; rfl
  rw [w20]
  refine bd_i (by omega) (by omega) (sw_e fun w3 e3 => rd_i fun _ => ?_)
  have w30 : w3.1 1 = u.1 1 := by rw [e3, ← w20]; rfl
  rw [w30]
  refine ov_i (by omega) (by omega) (sw_e fun a e5 => ?_)
  have ag : RG [1] [5, 6, 7, 12] u a := by
    rw [e5, e3, e2, e1, e0]
    exact (((((RG.rf hT).A _ _ (by decide) (by decide)).A _ _ (by decide) (by decide)).A _ _ (by decide) (by decide)).A _ _ (by decide) (by decide)).I _ (by decide) (by decide) (by decide)
  have a1 : a.1 1 = u.1 1 + 1 := by rw [e5]; rfl
  have r5 : ∀ i, a.2.1 5 i = if i = u.1 1 then n else u.2.1 5 i := fun i => by rw [e5, e3, e2, e1, e0]; rfl
  have r6 : ∀ i, a.2.1 6 i = if i = u.1 1 then f else u.2.1 6 i := fun i => by rw [e5, e3, e2, e1, e0]; rfl
  have r7 : ∀ i, a.2.1 7 i = if i = u.1 1 then -1 else u.2.1 7 i := fun i => by rw [e5, e3, e2, e1, e0]; rfl
  clear e0 e1 e2 e3 e5
  have a29 : a.1 29 = u.1 29 := ag.s 29 (by decide)
  refine j_learn (t := u.1 1) (m := m) ag.1 (by rw [ag.s 39 (by decide)]; exact h.1.2.2.2.1) a1 n0.2 h1 (by rw [r6, if_pos rfl]; exact hf) (by omega) (by omega) (by rw [r7, if_pos rfl]) fun c hc h8 => ?_
  obtain ⟨cg, c7, c50, c9, c39⟩ := hc
  have gc : RG [1, 29, 32, 39] (5 :: 6 :: lnR) u c := (ag.w (by decide) (by decide)).tr (cg.w (by decide) (by decide))
  refine hK c ?_
  unfold v_0_enter
  have w52 : c.1 2 = u.1 2 := gc.s 2 (by decide)
  refine rd_i fun _ => br_n (by omega) (rd_i fun _ => ?_)
  rw [w52]
  refine bd_i (by omega) (by omega) (sw_e fun w6 e6 => rd_i fun _ => rd_i fun _ => ?_)
  have w62 : w6.1 2 = u.1 2 := by rw [e6, ← w52]; rfl
  have w63 : w6.1 3 = u.1 3 := by rw [e6, ← gc.s 3 (by decide)]; rfl
  rw [w62, w63]
  refine bd_i (by omega) (by omega) (sw_e fun w7 e7 => rd_i fun _ => ?_)
  have w72 : w7.1 2 = u.1 2 := by rw [e7, ← w62]; rfl
  rw [w72]
  refine ov_i (by omega) (by omega) (sw_e fun w8 e8 => sw_e fun v e9 => ?_)
  have vc : RG [2, 3] [14, 15] c v := by
    rw [e9, e8, e7, e6]
    exact ((((RG.rf cg.1).A _ _ (by decide) (by decide)).A _ _ (by decide) (by decide)).I _ (by decide) (by decide) (by decide)).I _ (by decide) (by decide) (by decide)
  have v2 : v.1 2 = u.1 2 + 1 := by rw [e9, e8]; rfl
  have v3 : v.1 3 = m := by rw [e9]; rfl
  have r14 : ∀ i, v.2.1 14 i = if i = u.1 2 then k else u.2.1 14 i := fun i => by rw [e9, e8, e7, e6, ← gc.a 14 (by decide)]; rfl
  have r15 : ∀ i, v.2.1 15 i = if i = u.1 2 then u.1 3 else u.2.1 15 i := fun i => by rw [e9, e8, e7, e6, ← gc.a 15 (by decide)]; rfl
  clear e6 e7 e8 e9
  have vg : RG [1, 2, 3, 29, 32, 39] (5 :: 6 :: 14 :: 15 :: lnR) u v := (gc.w (by decide) (by decide)).tr (vc.w (by decide) (by decide))
  have v29 := vg.2.1.1
  have v5 : ∀ i, v.2.1 5 i = if i = u.1 1 then n else u.2.1 5 i := fun i => by rw [vc.a 5 (by decide), cg.a 5 (by decide)]; exact r5 i
  have v6 : ∀ i, v.2.1 6 i = if i = u.1 1 then f else u.2.1 6 i := fun i => by rw [vc.a 6 (by decide), cg.a 6 (by decide)]; exact r6 i
  have e7 := vc.a 7 (by decide)
  have e8 := vc.a 8 (by decide)
  have e9 := vc.a 9 (by decide)
  have e50 := vc.a 50 (by decide)
  have v1 : v.1 1 = u.1 1 + 1 := by rw [vc.s 1 (by decide), cg.s 1 (by decide), a1]
  have vB : BL v := by
    refine hB.ent (m := m) (k := k) hT vg.2.1 (by omega) v2 v3 r14 r15 hm (by omega) (Or.inr ⟨hk, vg.s 0 (by decide), v1, h1, by rw [v5, if_pos rfl]; exact hn, by rw [v6, if_pos rfl]; exact hf, ?_⟩) (fun f _ => by rw [vg.a 0 (by decide), vg.a 1 (by decide), vg.a 2 (by decide), vg.a 3 (by decide), vg.a 4 (by decide)]; exact ⟨rfl, rfl, rfl, rfl, rfl⟩) (fun t ht => ?_)
    · rw [e7, e8, e9, e50]
      exact fun z => ⟨h8 z, ⟨c9.1, c9.2.1⟩, c9.2.2⟩
    · have ht := ht.resolve_right hk
      obtain ⟨q7, q8, q9⟩ := c7 t ht
      rw [v5, v6, if_neg ht, if_neg ht, e7, e8, e9, e50, q7, q8, q9, r7, if_neg ht, ag.a 8 (by decide), ag.a 9 (by decide)]
      refine ⟨rfl, rfl, rfl, rfl, rfl, fun j j0 j1 => ?_⟩
      rw [c50 _ (by omega), ag.a 50 (by decide)]
  obtain ⟨hJ, hP⟩ := h
  refine hq v ⟨hJ.gb vg (by decide) vB (hJ.2.2.1.keep (vg.a 54 (by decide))) (by rw [vc.s 39 (by decide)]; exact c39) (hJ.2.2.2.2.2.1.rg vg (by decide) (by decide)) (by rw [vg.s 33 (by decide)]; exact hJ.2.2.2.2.2.2.1) (by rw [vg.s 13 (by decide)]; exact hJ.2.2.2.2.2.2.2.1) (by rw [vg.s 14 (by decide)]; exact hJ.2.2.2.2.2.2.2.2.1) (by rw [vg.s 15 (by decide)]; exact hJ.2.2.2.2.2.2.2.2.2.1), fun z => ?_⟩ (vg.s 43 (by decide)) (vg.s 42 (by decide))
  obtain ⟨p1, p2, p3⟩ := hP (by rw [← vg.s 50 (by decide)]; exact z)
  exact ⟨p1.keep (vg.s 26 (by decide)) vg.2.1.1 (vg.a 52 (by decide)), by rw [vg.s 13 (by decide)]; exact p2.rg vg (by decide) (by decide), by rw [vg.s 25 (by decide), v1]; omega⟩
