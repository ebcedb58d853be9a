/-! the class: a command is worked -/
abbrev hbS : List Nat := [0, 1, 2, 3, 4, 5, 6, 7, 8, 9, 10, 11, 12, 13, 14, 15, 16, 17, 18, 19, 20, 21, 22, 23, 24, 25, 26, 28, 29, 30, 31, 32, 33, 34, 35, 36, 39, 40, 41, 44, 45, 46, 47, 48, 49, 50]
theorem HJ0.gb {u v : iST} {S R : List Nat} (h : HJ0 u) (g : RG S R u v) (h1 : ∀ k ∈ S, k ∈ hbS) (hB : BL v) (hs : SL v) (h39 : 0 ≤ v.1 39 ∧ v.1 39 ≤ 256) (hC : CV (fun _ => False) v) (h33 : 0 ≤ v.1 33 ∧ v.1 33 ≤ 64) (h13 : 0 ≤ v.1 13 ∧ v.1 13 ≤ 120) (h14 : 0 ≤ v.1 14 ∧ v.1 14 ≤ 10) (h15 : 0 ≤ v.1 15 ∧ v.1 15 ≤ 20) : HJ0 v := by
  have s : ∀ k, k ∉ hbS → v.1 k = u.1 k := fun k hk => g.s k (fun z => hk (h1 k z))
  obtain ⟨a1, a2, a3, a4, a5, a6, a7, a8, a9, b1, b2, b3, b4⟩ := h
  exact ⟨g.1, hB, hs, h39, by rw [s 37 (by decide), s 38 (by decide)]; exact a5, hC, h33, h13, h14, h15, by rw [s 43 (by decide)]; exact b2, by rw [s 42 (by decide)]; exact b3, by rw [s 27 (by decide)]; exact b4⟩
abbrev LF : iST → Int → Prop := LG (fun _ => False)
/-- within a command's work, which began in u0 -/
def HW (x : Int) (u0 u : iST) : Prop := Ce u0 u ∧ HJ0 u ∧ (u.1 32 = 0 → NF u) ∧ CV (LF u) u ∧ (0 ≤ u.1 31 ∧ u.1 31 ≤ u.1 30 ∧ u.1 30 ≤ 1000) ∧ u.1 50 = 0 ∧ (u.1 13 ≤ 0 ∨ (0 ≤ u.1 25 ∧ u.1 25 ≤ u.1 1)) ∧ (u.1 42 = u0.1 42 ∧ u.1 43 = u0.1 43 ∧ u.1 44 = u0.1 44 ∧ u.1 45 = u0.1 45 ∧ u.1 46 = u0.1 46) ∧ (eL u0 x ≠ 25 → u.1 0 = u0.1 0 ∧ u.1 1 = u0.1 1 ∧ u.1 3 = u0.1 3)
theorem HW.T {x : Int} {u0 u : iST} (h : HW x u0 u) : RT u := h.2.1.1
theorem HW.J {x : Int} {u0 u : iST} (h : HW x u0 u) : HJ0 u := h.2.1
abbrev hwS : List Nat := [4, 5, 6, 7, 8, 9, 10, 11, 12, 13, 14, 15, 16, 23, 24, 26, 28, 29, 31, 32, 33, 34, 35, 36, 39, 40, 41, 47, 48, 49]
abbrev hwR : List Nat := [10, 11, 12, 13, 16, 17, 18, 19, 20, 21, 22, 27, 28, 29, 30, 31, 32, 33, 34, 35, 36, 37, 38, 39, 40, 41, 42, 43, 46, 47, 48, 49, 51, 52, 53, 54, 55, 56, 57]
/-- a stage of the work that leaves the book alone -/
theorem HW.go {x : Int} {u0 u v : iST} {S R : List Nat} (h : HW x u0 u) (g : RG S R u v) (h1 : ∀ k ∈ S, k ∈ hwS) (h2 : ∀ k ∈ R, k ∈ hwR) (hN : v.1 32 = 0 → NF v) (hC : CV (LF v) v) (h31 : 0 ≤ v.1 31 ∧ v.1 31 ≤ v.1 30) (h25 : v.1 13 ≤ 0 ∨ (0 ≤ u.1 25 ∧ u.1 25 ≤ u.1 1)) (hs : SL v) (h39 : 0 ≤ v.1 39 ∧ v.1 39 ≤ 256) (h33 : 0 ≤ v.1 33 ∧ v.1 33 ≤ 64) (h13 : 0 ≤ v.1 13 ∧ v.1 13 ≤ 120) (h14 : 0 ≤ v.1 14 ∧ v.1 14 ≤ 10) (h15 : 0 ≤ v.1 15 ∧ v.1 15 ≤ 20) : HW x u0 v := by
  have g : RG hwS hwR u v := g.w h1 h2
  obtain ⟨a1, a2, a3, a4, a5, a6, a7, a8, a9⟩ := h
  refine ⟨a1.tr g.2.1, a2.gb g (by decide) (a2.2.1.rg a2.1 g (by decide) (by decide)) hs h39 hC.len h33 h13 h14 h15, hN, hC, ⟨h31.1, h31.2, by rw [g.s 30 (by decide)]; exact a5.2.2⟩, by rw [g.s 50 (by decide)]; exact a6, by rw [g.s 25 (by decide), g.s 1 (by decide)]; exact h25, by rw [g.s 42 (by decide), g.s 43 (by decide), g.s 44 (by decide), g.s 45 (by decide), g.s 46 (by decide)]; exact a8, by rw [g.s 0 (by decide), g.s 1 (by decide), g.s 3 (by decide)]; exact a9⟩
/-- one that leaves clauses and notes alone as well -/
theorem HW.k {x : Int} {u0 u v : iST} {S R : List Nat} (h : HW x u0 u) (g : RG S R u v) (h1 : ∀ k ∈ S, k ∈ [4, 5, 6, 7, 8, 9, 10, 11, 12, 16, 28, 29, 31, 32, 34, 35, 36, 40, 41, 47, 48, 49]) (h2 : ∀ k ∈ R, k ∈ [10, 11, 12, 13, 16, 17, 18, 19, 20, 21, 22, 27, 28, 29, 30, 31, 32, 33, 34, 35, 36, 37, 38, 39, 40, 41, 42, 43, 51, 53, 54, 55, 56, 57]) (hs : SL v) : HW x u0 v := by
  have g : RG [4, 5, 6, 7, 8, 9, 10, 11, 12, 16, 28, 29, 31, 32, 34, 35, 36, 40, 41, 47, 48, 49] [10, 11, 12, 13, 16, 17, 18, 19, 20, 21, 22, 27, 28, 29, 30, 31, 32, 33, 34, 35, 36, 37, 38, 39, 40, 41, 42, 43, 51, 53, 54, 55, 56, 57] u v := g.w h1 h2
  obtain ⟨a1, a2, a3, a4, a5, a6, a7, a8, a9⟩ := h
  have h : HW x u0 u := ⟨a1, a2, a3, a4, a5, a6, a7, a8, a9⟩
  obtain ⟨b1, b2, b3, b4, b5, b6, b7, b8, b9, c1, c2, c3, c4⟩ := a2
  refine h.go g (by decide) (by decide) (fun z => (a3 (g.2.2.2 z)).keep (g.s 26 (by decide)) g.2.1.1 (g.a 52 (by decide))) ?_ ⟨by have := g.2.2.1.2.1; omega, g.2.2.1.2.2 a5.2.1⟩ (by rw [g.s 13 (by decide)]; exact a7) hs (by rw [g.s 39 (by decide)]; exact b4) (by rw [g.s 33 (by decide)]; exact b7) (by rw [g.s 13 (by decide)]; exact b8) (by rw [g.s 14 (by decide)]; exact b9) (by rw [g.s 15 (by decide)]; exact c1)
  rw [show LF v = LF u from LG.eq (g.s 13 (by decide)) (g.s 15 (by decide))]
  exact a4.keep (g.a 46 (by decide)) (g.a 49 (by decide)) g.2.1.1
theorem HW.S {x : Int} {u0 u : iST} (h : HW x u0 u) : SL u := h.2.1.2.2.1
theorem j_blame0 {u : iST} {x : Int} {Q : iST → Prop} (hT : RT u) (hq : ∀ v, RM u v → Q v) : v_7_blame x Q u := by
  by_cases hx : x = 0
  · unfold v_7_blame
    refine rd_i fun _ => br_i (fun _ => hq u (RG.rf hT)) fun hz => sw_e fun w e => hq w ?_
    have hz := Classical.not_not.mp hz
    have w1 : ∀ k, w.1 k = u.1 k := fun k => by
      rw [e]
      show (if k = 32 then x else u.1 k) = _
      by_cases q : k = 32
      · rw [if_pos q, hx, q, hz]
      · rw [if_neg q]
    have w2 : w.2 = u.2 := by rw [e]; rfl
    exact (RG.rf hT).put ⟨fun k _ => w1 k, fun k _ => by rw [w2]⟩ (by rw [w2]) (w1 29) (fun z => by rw [← w1 32]; exact z) (fun k _ => by rw [w2]) (Sp.eq (w1 31) (w1 30))
  · exact j_blame hT hx fun v hv _ => hq v hv
theorem j_showValue {x : Int} {u0 u : iST} {t : Int} {Q : iST → Prop} (h : HW x u0 u) (hq : ∀ v, HW x u0 v → Q v) : v_11_showValue t Q u := by
  unfold v_11_showValue
  exact br_i (fun _ => j_write h.T h.S (by decide) (by decide) fun v hv vS => hq v (h.k hv (by decide) (by decide) vS)) fun _ => rd_i fun _ => j_blame0 h.T fun v hv => hq v (h.k hv (by decide) (by decide) (h.S.keep (hv.a 54 (by decide))))
theorem j_showTerm {x : Int} {u0 u : iST} {t : Int} {Q : iST → Prop} (h : HW x u0 u) (hq : ∀ v, HW x u0 v → Q v) : v_11_showTerm t Q u := by
  unfold v_11_showTerm
  exact br_i (fun _ => hq u h) fun _ => j_write h.T h.S (by decide) (by decide) fun v hv vS => hq v (h.k hv (by decide) (by decide) vS)
/-- clauses are given -/
theorem HW.sh {x : Int} {u0 u v : iST} (h : HW x u0 u) (h15 : u.1 15 = 0) (h25 : 0 ≤ u.1 25 ∧ u.1 25 ≤ u.1 1) (g : SH (fun c => c < v.1 13 ∨ False) u v) : HW x u0 v := by
  obtain ⟨g1, g2, g3, g4, g5⟩ := g
  have v15 : v.1 15 = 0 := by rw [g1.s 15 (by decide)]; exact h15
  refine h.go g1 (by decide) (by decide) (fun z => (h.2.2.1 (g1.2.2.2 z)).keep (g1.s 26 (by decide)) g1.2.1.1 (g1.a 52 (by decide))) (g3.less (fun c hc => ?_)) ⟨by rw [g1.s 31 (by decide)]; exact h.2.2.2.2.1.1, by rw [g1.s 31 (by decide), g1.s 30 (by decide)]; exact h.2.2.2.2.1.2.1⟩ (Or.inr h25) g2.2.2.2.2.2.1 g2.2.2.2.2.2.2 g4 g5 (by rw [g1.s 14 (by decide)]; exact h.J.2.2.2.2.2.2.2.2.1) (by omega)
  rcases hc with hc | hc | hc
  · exact Or.inl hc
  · omega
  · exact hc.elim
theorem HW.toSH {x : Int} {u0 u : iST} (h : HW x u0 u) (h15 : u.1 15 = 0) : SH (fun c => c < u.1 13 ∨ False) u u := ⟨RG.rf h.T, h.J.WK, h.2.2.2.1.less (fun c hc => hc.imp id (fun z => z.elim)), h.J.2.2.2.2.2.2.1, h.J.2.2.2.2.2.2.2.1⟩
theorem j_takeBack {x : Int} {u0 u : iST} {Q : iST → Prop} (h : HW x u0 u) (hx : eL u0 x = 25) (h13 : u.1 13 ≤ 0) (hq : ∀ v, HW x u0 v → Q v) : v_0_takeBack Q u := by
  obtain ⟨a1, a2, a3, a4, a5, a6, a7, a8, a9⟩ := h
  have h : HW x u0 u := ⟨a1, a2, a3, a4, a5, a6, a7, a8, a9⟩
  have hB := a2.2.1
  have u2 := hB.1
  have n0 := hB.n0
  have e40 := hB.2.2.2.2.1.2
  have e60 := hB.2.2.2.2.2.1.2
  unfold v_0_takeBack
  refine rd_i fun _ => br_i (fun _ => hq u h) fun hp => rd_i fun _ => ov_i (by omega) (by omega) (sw_e fun w e => rd_i fun _ => ?_)
  have w2 : w.1 2 = u.1 2 - 1 := by rw [e]; rfl
  have wo : ∀ k, k ≠ 2 → w.1 k = u.1 k := fun k hk => by rw [e]; exact if_neg hk
  have wr : w.2 = u.2 := by rw [e]; rfl
  have wg : RG [0, 1, 2, 3] [] u w := by rw [e]; exact (RG.rf a2.1).I _ (by decide) (by decide) (by decide)
  clear e
  rw [w2, wr]
  refine bd_i (by omega) (by omega) (rd_i fun _ => sw_e fun y e => rd_i fun _ => ?_)
  have y3 : y.1 3 = u.2.1 15 (u.1 2 - 1) := by rw [e]; rfl
  have yo : ∀ k, k ≠ 3 → y.1 k = w.1 k := fun k hk => by rw [e]; exact if_neg hk
  have yr : y.2 = u.2 := by rw [e, ← wr]; rfl
  have yg : RG [0, 1, 2, 3] [] u y := by rw [e]; exact wg.I _ (by decide) (by decide) (by decide)
  clear e
  rw [yo 2 (by decide), w2, yr]
  -- the end of it
  have fin : ∀ v, RG [0, 1, 2, 3] [] u v → v.2 = u.2 → BL v → Q v := by
    intro v vg v2 vB
    obtain ⟨b1, b2, b3, b4, b5, b6, b7, b8, b9, c1, c2, c3, c4⟩ := a2
    have a2 : HJ0 u := ⟨b1, b2, b3, b4, b5, b6, b7, b8, b9, c1, c2, c3, c4⟩
    refine hq v ⟨a1.tr vg.2.1, a2.gb vg (by decide) vB (b3.keep (by rw [v2])) (by rw [vg.s 39 (by decide)]; exact b4) (b6.keep (by rw [v2]) (by rw [v2]) vg.2.1.1) (by rw [vg.s 33 (by decide)]; exact b7) (by rw [vg.s 13 (by decide)]; exact b8) (by rw [vg.s 14 (by decide)]; exact b9) (by rw [vg.s 15 (by decide)]; exact c1), fun z => (a3 (vg.2.2.2 z)).keep (vg.s 26 (by decide)) vg.2.1.1 (by rw [v2]), ?_, by rw [vg.s 31 (by decide), vg.s 30 (by decide)]; exact a5, by rw [vg.s 50 (by decide)]; exact a6, Or.inl (by rw [vg.s 13 (by decide)]; exact h13), by rw [vg.s 42 (by decide), vg.s 43 (by decide), vg.s 44 (by decide), vg.s 45 (by decide), vg.s 46 (by decide)]; exact a8, fun z => absurd hx z⟩
    rw [show LF v = LF u from LG.eq (vg.s 13 (by decide)) (vg.s 15 (by decide))]
    exact a4.keep (by rw [v2]) (by rw [v2]) vg.2.1.1
  refine bd_i (by omega) (by omega) (rd_i fun _ => br_i (fun hk => rd_i fun _ => ?_) fun hk => rd_i fun _ => ?_)
  · rw [yo 1 (by decide), wo 1 (by decide)]
    refine ov_i (by omega) (by omega) (sw_e fun v e => ?_)
    have vg : RG [0, 1, 2, 3] [] u v := by rw [e]; exact yg.I _ (by decide) (by decide) (by decide)
    have v2 : v.2 = u.2 := by rw [e, ← yr]; rfl
    have v1 : v.1 1 = u.1 1 - 1 := by rw [e]; rfl
    have vo : ∀ k, k ≠ 1 → v.1 k = y.1 k := fun k hk => by rw [e]; exact if_neg hk
    exact fin v vg v2 (hB.back a2.1 vg.2.1 (by omega) (by rw [vo 2 (by decide), yo 2 (by decide), w2]) (by rw [vo 3 (by decide), y3]) (by rw [v2]) (Or.inr ⟨hk, by rw [vo 0 (by decide), yo 0 (by decide), wo 0 (by decide)], v1⟩))
  · rw [yo 0 (by decide), wo 0 (by decide)]
    refine ov_i (by omega) (by omega) (sw_e fun v e => ?_)
    have vg : RG [0, 1, 2, 3] [] u v := by rw [e]; exact yg.I _ (by decide) (by decide) (by decide)
    have v2 : v.2 = u.2 := by rw [e, ← yr]; rfl
    have v1 : v.1 0 = u.1 0 - 1 := by rw [e]; rfl
    have vo : ∀ k, k ≠ 0 → v.1 k = y.1 k := fun k hk => by rw [e]; exact if_neg hk
    exact fin v vg v2 (hB.back a2.1 vg.2.1 (by omega) (by rw [vo 2 (by decide), yo 2 (by decide), w2]) (by rw [vo 3 (by decide), y3]) (by rw [v2]) (Or.inl ⟨Classical.not_not.mp hk, v1, by rw [vo 1 (by decide), yo 1 (by decide), wo 1 (by decide)]⟩))
theorem j_prepare {u : iST} {x : Int} {Q : iST → Prop} (hJ : HJ0 u) (a4 : CV (LF u) u) (a5 : 0 ≤ u.1 31 ∧ u.1 31 ≤ u.1 30 ∧ u.1 30 ≤ 1000) (a6 : u.1 50 = 0) (hx : x < u.1 29) (h13 : u.1 13 = 0) (h15 : u.1 15 = 0) (h32 : u.1 32 = 0) (hS : SuOk u) (hA : AsOk x u) (hq : ∀ v, HW x u v → Q v) : v_11_prepare x Q u := by
  have b1 := hJ.WK.2.1.1.2.1
  unfold v_11_prepare
  refine rd_i fun _ => j_theoremOf b1.1 b1.2 fun r hr => ?_
  unfold v_6_begin
  refine sw_e fun w e => rd_i fun _ => sw_e fun y e2 => ?_
  have yg : RG [25, 26] [] u y := by rw [e2, e]; exact ((RG.rf hJ.1).I _ (by decide) (by decide) (by decide)).I _ (by decide) (by decide) (by decide)
  have y26 : y.1 26 = 0 := by rw [e2, e]; rfl
  have y25 : y.1 25 = u.1 1 := by rw [e2, e]; rfl
  have y2 : y.2 = u.2 := by rw [e2, e]; rfl
  clear e e2
  have y29 : y.1 29 = u.1 29 := yg.s 29 (by decide)
  have ys : ∀ k, k ≠ 25 → k ≠ 26 → y.1 k = u.1 k := fun k h1 h2 => yg.s k (by simp only [List.mem_cons, List.not_mem_nil, or_false, not_or]; exact ⟨h1, h2⟩)
  have n0 := hJ.2.1.n0
  have yH : HW x u y := by
    obtain ⟨b1, b2, b3, b4, b5, b6, b7, b8, b9, c1, c2, c3, c4⟩ := hJ
    have a2 : HJ0 u := ⟨b1, b2, b3, b4, b5, b6, b7, b8, b9, c1, c2, c3, c4⟩
    refine ⟨yg.2.1, a2.gb yg (by decide) (b2.rg b1 yg (by decide) (by decide)) (b3.keep (by rw [y2])) (by rw [ys 39 (by decide) (by decide)]; exact b4) (b6.keep (by rw [y2]) (by rw [y2]) yg.2.1.1) (by rw [ys 33 (by decide) (by decide)]; exact b7) (by rw [ys 13 (by decide) (by decide)]; exact b8) (by rw [ys 14 (by decide) (by decide)]; exact b9) (by rw [ys 15 (by decide) (by decide)]; exact c1), fun _ => ⟨by omega, fun k k0 k1 => by omega⟩, ?_, by rw [ys 31 (by decide) (by decide), ys 30 (by decide) (by decide)]; exact a5, by rw [ys 50 (by decide) (by decide)]; exact a6, Or.inr (by rw [y25, ys 1 (by decide) (by decide)]; omega), by rw [ys 42 (by decide) (by decide), ys 43 (by decide) (by decide), ys 44 (by decide) (by decide), ys 45 (by decide) (by decide), ys 46 (by decide) (by decide)]; exact ⟨rfl, rfl, rfl, rfl, rfl⟩, by rw [ys 0 (by decide) (by decide), ys 1 (by decide) (by decide), ys 3 (by decide) (by decide)]; exact fun _ => ⟨rfl, rfl, rfl⟩⟩
    rw [show LF y = LF u from LG.eq (ys 13 (by decide) (by decide)) (ys 15 (by decide) (by decide))]
    exact a4.keep (by rw [y2]) (by rw [y2]) yg.2.1.1
  have yx : x < y.1 29 := by omega
  have el : eL y x = eL u x := (yg.2.1.el hx).1
  have yS : SuOk y := hS.rg hJ.1 yg (by decide) (by decide) (by decide)
  have y15 : y.1 15 = 0 := by rw [ys 15 (by decide) (by decide)]; exact h15
  have yh25 : 0 ≤ y.1 25 ∧ y.1 25 ≤ y.1 1 := by rw [y25, ys 1 (by decide) (by decide)]; omega
  have y45 : y.1 45 = u.1 45 := ys 45 (by decide) (by decide)
  have hW := yH.J.WK
  refine j_left yH.T ?_
  rw [el]
  have given : ∀ s, s = y.1 47 → v_8_mute s (fun u_1 => rd (u_1.1 45) fun v15 => rd (u_1.1 47) fun v16 => v_8_addTheoremClauses v15 v16 (fun u => Q u) u_1) y := by
    intro s _
    refine j_mute yH.T hW.2.1.1.2.1 fun v hv => rd_i fun _ => rd_i fun _ => ?_
    have vH : HW x u v := yH.k hv (by decide) (by decide) (yH.S.keep (hv.a 54 (by decide)))
    have v15 : v.1 15 = 0 := by rw [hv.s 15 (by decide)]; exact y15
    exact j_addTheorem (E := fun _ => False) (vH.toSH v15) (by rw [hv.s 45 (by decide), hv.s 29 (by decide)]; exact yS.1.2.1) fun z zh => hq z (vH.sh v15 (by rw [hv.s 25 (by decide), hv.s 1 (by decide)]; exact yh25) zh)
  have onoff : br (r = -1) (Q y) (v_7_left x (fun v33 u => br (v33 ≠ 23) (zt 0 (bd r 60 (sw (iA u 12 r 0) fun u => Q u))) (zt 1 (bd r 60 (sw (iA u 12 r 1) fun u => Q u)))) y) := br_i (fun _ => hq y yH) fun hne => by
    obtain ⟨r0, r1, _⟩ := hr.resolve_left hne
    have st : ∀ c, bd r 60 (sw (iA y 12 r c) fun u => Q u) := fun c => bd_i r0 (by omega) (sw_e fun v e => hq v (yH.k (S := []) (R := [12]) (by rw [e]; exact (RG.rf yH.T).A _ _ (by decide) (by decide)) (by decide) (by decide) (by rw [e]; exact yH.S.keep rfl)))
    exact j_left yH.T (br_i (fun _ => zt_0 (st 0)) fun _ => zt_1 (st 1))
  refine br_i (fun e17 => rd_i fun _ => ?_) fun e17 => br_i (fun e18 => rd_i fun _ => ?_) fun e18 => br_i (fun e19 => rd_i fun _ => given _ rfl) fun e19 => br_i (fun e20 => rd_i fun _ => br_i (fun _ => hq y yH) fun _ => rd_i fun _ => j_item yH.T (by decide) fun p _ _ => rd_i fun _ => rd_i fun _ => j_addMeasure (E := fun _ => False) (yH.toSH y15) yS.1.2.1 yS.1.2.2 fun z zh => hq z (yH.sh y15 yh25 zh)) fun e20 => br_i (fun e21 => rd_i fun _ => given _ rfl) fun e21 => br_i (fun e22 => hq y yH) fun e22 => br_i (fun e23 => onoff) fun e23 => br_i (fun e24 => onoff) fun e24 => br_i (fun e25 => j_takeBack yH e25 (by rw [ys 13 (by decide) (by decide)]; omega) hq) fun e25 => hq y yH
  · have ne : y.1 45 ≠ -1 := by rw [y45]; exact hA.1 e17
    have wf := yS.2 (by rw [ys 32 (by decide) (by decide)]; exact h32) ne
    exact j_evaluated yH.T hW.2.1 wf.2 wf.1 (by decide) fun t v hv ht => j_showValue (yH.k hv (by decide) (by decide) (yH.S.keep (hv.a 54 (by decide)))) hq
  · have y44 := yH.T.1.1
    have nf : NF y := ⟨by omega, fun k k0 k1 => by omega⟩
    refine j_rewritten hW nf yh25 ⟨yH.2.2.2.2.1.1, yH.2.2.2.2.1.2.1⟩ (fun _ => yH.2.2.2.2.1.2.2) yS.1.2.1 (by omega) fun t v hv vW v31 vN ht _ => j_showTerm (yH.go hv (by decide) (by decide) (fun z => vN (Or.inl z)) ?_ v31 (Or.inr yh25) vW.2.2.2.2.2.1 vW.2.2.2.2.2.2 (by rw [hv.s 33 (by decide)]; exact yH.J.2.2.2.2.2.2.1) (by rw [hv.s 13 (by decide)]; exact yH.J.2.2.2.2.2.2.2.1) (by rw [hv.s 14 (by decide)]; exact yH.J.2.2.2.2.2.2.2.2.1) (by rw [hv.s 15 (by decide)]; exact yH.J.2.2.2.2.2.2.2.2.2.1)) hq
    rw [show LF v = LF y from LG.eq (hv.s 13 (by decide)) (hv.s 15 (by decide))]
    exact yH.2.2.2.1.rg hv (by decide) (by decide)
