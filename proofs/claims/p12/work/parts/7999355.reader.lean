/-! the class: reading -/
abbrev rdS : List Nat := [17, 18, 19, 20, 21, 22, 29, 32]
abbrev rdR : List Nat := [23, 24, 25, 26, 27, 28, 29, 30]
def RV (u0 u : iST) : Prop := RG rdS rdR u0 u ∧ (0 ≤ u.1 17 ∧ u.1 17 ≤ 40) ∧ (0 ≤ u.1 18 ∧ u.1 18 ≤ 1000) ∧ (0 ≤ u.1 19 ∧ u.1 19 ≤ 1000) ∧ u.1 20 < u.1 29 ∧ (∀ i, 0 ≤ i → i < u.1 18 → u.2.1 26 i < u.1 29) ∧ ∀ k, 1 ≤ k → k ≤ u.1 17 → u.2.1 25 k < u.1 29
theorem RV.T {u0 u : iST} (h : RV u0 u) : RT u := h.1.1
theorem RV.rm {u0 u v : iST} (h : RV u0 u) (g : RM u v) : RV u0 v := by
  obtain ⟨a, b, c, d, e, f, i⟩ := h
  have := g.2.1.1
  refine ⟨a.tr (g.w (by decide) (by decide)), by rw [g.s 17 (by decide)]; exact b, by rw [g.s 18 (by decide)]; exact c, by rw [g.s 19 (by decide)]; exact d, by rw [g.s 20 (by decide)]; omega, fun j j0 j1 => ?_, fun k k0 k1 => ?_⟩
  · rw [g.s 18 (by decide)] at j1
    rw [g.a 26 (by decide)]
    exact g.up (f j j0 j1)
  · rw [g.s 17 (by decide)] at k1
    rw [g.a 25 (by decide)]
    exact g.up (i k k0 k1)
/-- 21, 22, a phase or a base is set -/
theorem RV.s {u0 u v : iST} (h : RV u0 u) (g : RG [19, 21, 22] [23, 24] u v) (h19 : 0 ≤ v.1 19 ∧ v.1 19 ≤ 1000) : RV u0 v := by
  obtain ⟨a, b, c, d, e, f, i⟩ := h
  have e29 : v.1 29 = u.1 29 := g.s 29 (by decide)
  refine ⟨a.tr (g.w (by decide) (by decide)), by rw [g.s 17 (by decide)]; exact b, by rw [g.s 18 (by decide)]; exact c, h19, by rw [g.s 20 (by decide), e29]; exact e, fun j j0 j1 => ?_, fun k k0 k1 => ?_⟩
  · rw [g.s 18 (by decide)] at j1
    rw [g.a 26 (by decide), e29]
    exact f j j0 j1
  · rw [g.s 17 (by decide)] at k1
    rw [g.a 25 (by decide), e29]
    exact i k k0 k1
/-- the depth falls -/
theorem RV.d {u0 u v : iST} (h : RV u0 u) (g : RG [17] [] u v) (h17 : v.1 17 = u.1 17 - 1) (hp : 0 < u.1 17) : RV u0 v := by
  obtain ⟨a, b, c, d, e, f, i⟩ := h
  have e29 : v.1 29 = u.1 29 := g.s 29 (by decide)
  refine ⟨a.tr (g.w (by decide) (by decide)), by omega, by rw [g.s 18 (by decide)]; exact c, by rw [g.s 19 (by decide)]; exact d, by rw [g.s 20 (by decide), e29]; exact e, fun j j0 j1 => ?_, fun k k0 k1 => ?_⟩
  · rw [g.s 18 (by decide)] at j1
    rw [g.a 26 (by decide), e29]
    exact f j j0 j1
  · rw [g.a 25 (by decide), e29]
    exact i k k0 (by omega)
theorem j_refuse {u0 u : iST} {a b : Int} {Q : iST → Prop} (h : RV u0 u) (hq : ∀ v, RV u0 v → Q v) : v_5_refuse a b Q u := by
  unfold v_5_refuse
  refine sw_e fun w e => sw_e fun z e2 => hq z (h.s ?_ ?_)
  · rw [e2, e]; exact ((RG.rf h.T).I _ (by decide) (by decide) (by decide)).I _ (by decide) (by decide) (by decide)
  · rw [e2, e]; exact h.2.2.2.1
theorem j_deliver {u0 u : iST} {x : Int} {Q : iST → Prop} (h : RV u0 u) (hx : x < u.1 29) (hq : ∀ v, RV u0 v → Q v) : v_5_deliver x Q u := by
  unfold v_5_deliver v_5_deliver_2
  refine lf1 (B := fun R x2 u => v_5_deliver_2b R Q x2 u) (fun x2 v => RV u0 v ∧ x2 < v.1 29) (fun _ v => (v.1 17).toNat) ?_ ⟨h, hx⟩
  intro x2 v hI R ih
  obtain ⟨vh, h2⟩ := hI
  have vT := vh.T
  have v17 := vh.2.1
  have v18 := vh.2.2.1
  have v44 := vT.1.1
  have k59 : v_5_deliver_59 Q x2 v := by
    unfold v_5_deliver_59
    refine rd_i fun _ => bd_i v17.1 (by omega) (rd_i fun _ => br_i (fun _ => rd_i fun _ => bd_i v17.1 (by omega) (rd_i fun _ => br_i (fun _ => rd_i fun _ => br_i (fun _ => hq v vh) fun hlt => rd_i fun _ => bd_i v18.1 (by omega) (sw_e fun a e => rd_i fun _ => ?_)) fun _ => rd_i fun _ => bd_i v17.1 (by omega) (sw_e fun a e => rd_i fun _ => ?_))) fun _ => sw_e fun a e => rd_i fun _ => ?_)
    · have a1 : a.1 = v.1 := by rw [e]; rfl
      rw [a1]
      refine ov_i (by omega) (by omega) (sw_e fun b e2 => rd_i fun _ => ?_)
      have b17 : b.1 17 = v.1 17 := by rw [e2, ← a1]; rfl
      rw [b17]
      refine bd_i v17.1 (by omega) (sw_e fun c e3 => hq c ?_)
      have c18 : c.1 18 = v.1 18 + 1 := by rw [e3, e2]; rfl
      have co : ∀ k, k ≠ 18 → c.1 k = v.1 k := fun k hk => by rw [e3, e2, ← a1]; exact if_neg hk
      have c26 : ∀ i, c.2.1 26 i = if i = v.1 18 then x2 else v.2.1 26 i := fun i => by rw [e3, e2, e]; rfl
      have c25 : c.2.1 25 = v.2.1 25 := by rw [e3, e2, e]; rfl
      obtain ⟨g1, g2, g3, g4, g5, g6, g7⟩ := vh
      refine ⟨?_, by rw [co 17 (by decide)]; exact g2, by omega, by rw [co 19 (by decide)]; exact g4, by rw [co 20 (by decide), co 29 (by decide)]; exact g5, fun i i0 i1 => ?_, fun k k0 k1 => ?_⟩
      · rw [e3, e2, e]; exact ((g1.A _ _ (by decide) (by decide)).I _ (by decide) (by decide) (by decide)).A _ _ (by decide) (by decide)
      · rw [c26, co 29 (by decide)]
        by_cases ei : i = v.1 18
        · rw [if_pos ei]; exact h2
        · rw [if_neg ei]; exact g6 i i0 (by omega)
      · rw [co 17 (by decide)] at k1
        rw [c25, co 29 (by decide)]
        exact g7 k k0 k1
    · have a1 : a.1 = v.1 := by rw [e]; rfl
      rw [a1]
      refine bd_i v17.1 (by omega) (sw_e fun b e2 => hq b ?_)
      have b1 : b.1 = v.1 := by rw [e2, ← a1]; rfl
      have b26 : b.2.1 26 = v.2.1 26 := by rw [e2, e]; rfl
      have b25 : ∀ i, b.2.1 25 i = if i = v.1 17 then x2 else v.2.1 25 i := fun i => by rw [e2, e]; rfl
      obtain ⟨g1, g2, g3, g4, g5, g6, g7⟩ := vh
      refine ⟨?_, by rw [b1]; exact g2, by rw [b1]; exact g3, by rw [b1]; exact g4, by rw [b1]; exact g5, by rw [b26, b1]; exact g6, fun k k0 k1 => ?_⟩
      · rw [e2, e]; exact (g1.A _ _ (by decide) (by decide)).A _ _ (by decide) (by decide)
      · rw [b1] at k1 ⊢
        rw [b25]
        by_cases ek : k = v.1 17
        · rw [if_pos ek]; exact h2
        · rw [if_neg ek]; exact g7 k k0 k1
    · have a17 : a.1 17 = v.1 17 := by rw [e]; rfl
      rw [a17]
      refine bd_i v17.1 (by omega) (sw_e fun b e2 => hq b ?_)
      have b20 : b.1 20 = x2 := by rw [e2, e]; rfl
      have bo : ∀ k, k ≠ 20 → b.1 k = v.1 k := fun k hk => by rw [e2, e]; exact if_neg hk
      have b26 : b.2.1 26 = v.2.1 26 := by rw [e2, e]; rfl
      have b25 : b.2.1 25 = v.2.1 25 := by rw [e2, e]; rfl
      obtain ⟨g1, g2, g3, g4, g5, g6, g7⟩ := vh
      refine ⟨?_, by rw [bo 17 (by decide)]; exact g2, by rw [bo 18 (by decide)]; exact g3, by rw [bo 19 (by decide)]; exact g4, by rw [b20, bo 29 (by decide)]; exact h2, by rw [b26, bo 18 (by decide), bo 29 (by decide)]; exact g6, by rw [b25, bo 17 (by decide), bo 29 (by decide)]; exact g7⟩
      rw [e2, e]; exact (g1.I _ (by decide) (by decide) (by decide)).A _ _ (by decide) (by decide)
  unfold v_5_deliver_2b
  refine rd_i fun _ => br_i (fun _ => k59) fun hp => rd_i fun _ => bd_i v17.1 (by omega) (rd_i fun _ => br_i (fun _ => k59) fun _ => j_pair vT h2 (by omega) fun s w hw s0 s1 _ => j_pair hw.1 (by have := hw.1.1.1; omega) s1 fun t z hz t0 t1 _ => rd_i fun _ => ?_)
  have z17 : z.1 17 = v.1 17 := by rw [hz.s 17 (by decide), hw.s 17 (by decide)]
  rw [z17]
  refine ov_i (by omega) (by omega) (sw_e fun a e => ?_)
  have ar : RG [17] [] z a := by rw [e]; exact (RG.rf hz.1).I _ (by decide) (by decide) (by decide)
  have a17 : a.1 17 = z.1 17 - 1 := by rw [e, z17]; rfl
  exact ih _ _ ⟨((vh.rm hw).rm hz).d ar a17 (by omega), ar.up t1⟩ (by omega)
theorem j_takeMark {u0 u : iST} {c : Int} {Q : iST → Prop} (h : RV u0 u) (hq : ∀ v, RV u0 v → Q v) : v_5_takeMark c Q u := by
  have u17 := h.2.1
  have k117 : v_5_takeMark_117 Q c u := by
    unfold v_5_takeMark_117
    refine br_i (fun _ => hq u h) fun _ => rd_i fun _ => br_i (fun _ => hq u h) fun hlt => rd_i fun _ => ov_i (by omega) (by omega) (sw_e fun a e => rd_i fun _ => ?_)
    have a17 : a.1 17 = u.1 17 + 1 := by rw [e]; rfl
    have ao : ∀ k, k ≠ 17 → a.1 k = u.1 k := fun k hk => by rw [e]; exact if_neg hk
    have a2 : a.2 = u.2 := by rw [e]; rfl
    have ar : RG rdS rdR u0 a := by rw [e]; exact h.1.I _ (by decide) (by decide) (by decide)
    clear e
    rw [a17]
    have k161 : ∀ y, v_5_takeMark_161 Q (u.1 17 + 1) y a := by
      intro y
      unfold v_5_takeMark_161
      refine bd_i (by omega) (by omega) (sw_e fun b e => rd_i fun _ => rd_i fun _ => ?_)
      have b1 : b.1 = a.1 := by rw [e]; rfl
      rw [b1, a17]
      refine bd_i (by omega) (by omega) (sw_e fun d e2 => rd_i fun _ => ?_)
      have d1 : d.1 = a.1 := by rw [e2, ← b1]; rfl
      rw [d1, a17]
      refine bd_i (by omega) (by omega) (sw_e fun f e3 => hq f ?_)
      have f1 : f.1 = a.1 := by rw [e3, ← d1]; rfl
      have f25 : ∀ i, f.2.1 25 i = if i = u.1 17 + 1 then 0 else u.2.1 25 i := fun i => by rw [e3, e2, e, ← a2]; rfl
      have f26 : f.2.1 26 = u.2.1 26 := by rw [e3, e2, e, ← a2]; rfl
      have h44 := h.T.1.1
      obtain ⟨g1, g2, g3, g4, g5, g6, g7⟩ := h
      refine ⟨?_, by rw [f1]; omega, by rw [f1, ao 18 (by decide)]; exact g3, by rw [f1, ao 19 (by decide)]; exact g4, by rw [f1, ao 20 (by decide), ao 29 (by decide)]; exact g5, by rw [f26, f1, ao 18 (by decide), ao 29 (by decide)]; exact g6, fun k k0 k1 => ?_⟩
      · rw [e3, e2, e]; exact ((ar.A _ _ (by decide) (by decide)).A _ _ (by decide) (by decide)).A _ _ (by decide) (by decide)
      · rw [f1] at k1 ⊢
        rw [f25, ao 29 (by decide)]
        by_cases ek : k = u.1 17 + 1
        · rw [if_pos ek]; omega
        · rw [if_neg ek]; exact g7 k k0 (by omega)
    exact br_i (fun _ => k161 _) fun _ => k161 _
  unfold v_5_takeMark
  refine br_i (fun _ => br_i (fun _ => k117) fun _ => rd_i fun _ => br_i (fun _ => k117) fun hp => rd_i fun _ => bd_i u17.1 (by omega) (rd_i fun _ => ?_)) fun _ => rd_i fun _ => bd_i u17.1 (by omega) (sw_e fun w e => hq w (h.s ?_ ?_))
  · unfold v_5_takeMark_42
    refine lf1 (B := fun R x2 u => v_5_takeMark_42b R Q x2 u) (fun x2 v => RV u0 v ∧ x2 < v.1 29 ∧ v.1 17 = u.1 17) (fun _ v => (v.1 18).toNat) ?_ ⟨h, h.2.2.2.2.2.2 _ (by omega) (Int.le_refl _), rfl⟩
    intro x2 v hI R ih
    obtain ⟨vh, h2, v17⟩ := hI
    have v18 := vh.2.2.1
    have k99 : v_5_takeMark_99 Q x2 v := by
      unfold v_5_takeMark_99
      refine rd_i fun _ => ov_i (by omega) (by omega) (sw_e fun a e => ?_)
      have ar : RG [17] [] v a := by rw [e]; exact (RG.rf vh.T).I _ (by decide) (by decide) (by decide)
      have a17 : a.1 17 = v.1 17 - 1 := by rw [e]; rfl
      exact j_deliver (vh.d ar a17 (by omega)) (ar.up h2) hq
    unfold v_5_takeMark_42b
    refine rd_i fun _ => rd_i fun _ => bd_i (by omega) (by omega) (rd_i fun _ => br_i (fun _ => k99) fun _ => rd_i fun _ => br_i (fun _ => k99) fun hp18 => rd_i fun _ => ov_i (by omega) (by omega) (sw_e fun a e => rd_i fun _ => ?_))
    have a18 : a.1 18 = v.1 18 - 1 := by rw [e]; rfl
    have ao : ∀ k, k ≠ 18 → a.1 k = v.1 k := fun k hk => by rw [e]; exact if_neg hk
    have a2 : a.2 = v.2 := by rw [e]; rfl
    have ah : RV u0 a := by
      obtain ⟨g1, g2, g3, g4, g5, g6, g7⟩ := vh
      refine ⟨by rw [e]; exact g1.I _ (by decide) (by decide) (by decide), by rw [ao 17 (by decide)]; exact g2, by omega, by rw [ao 19 (by decide)]; exact g4, by rw [ao 20 (by decide), ao 29 (by decide)]; exact g5, fun i i0 i1 => ?_, ?_⟩
      · rw [a2, ao 29 (by decide)]; exact g6 i i0 (by omega)
      · rw [a2, ao 17 (by decide), ao 29 (by decide)]; exact g7
    have it : a.2.1 26 (v.1 18 - 1) < a.1 29 := by
      rw [a2, ao 29 (by decide)]
      exact vh.2.2.2.2.2.1 _ (by omega) (by omega)
    clear e
    rw [a18]
    exact bd_i (by omega) (by omega) (rd_i fun _ => j_pair ah.T it (by rw [ao 29 (by decide)]; exact h2) fun s w hw s0 s1 _ => ih _ _ ⟨ah.rm hw, s1, by rw [hw.s 17 (by decide), ao 17 (by decide), v17]⟩ (by rw [hw.s 18 (by decide)]; omega))
  · rw [e]; exact (RG.rf h.T).A _ _ (by decide) (by decide)
  · rw [e]; exact h.2.2.2.1
theorem j_lineEnd {u : iST} {a n : Int} {Q : Int → iST → Prop} (a0 : 0 ≤ a) (a1 : a ≤ 3000) (hn : n ≤ 3000) (hq : ∀ b, a ≤ b → b ≤ 3000 → Q b u) : v_5_lineEnd a n Q u := by
  unfold v_5_lineEnd v_5_lineEnd_3
  refine lf2 (B := fun R x3 x4 u => v_5_lineEnd_3b R Q x3 x4 u) (fun x3 x4 v => n = x3 ∧ a ≤ x4 ∧ x4 ≤ 3000 ∧ u = v) (fun _ x4 _ => (3000 - x4).toNat) ?_ ⟨rfl, Int.le_refl _, a1, rfl⟩
  intro x3 x4 v hI R ih
  obtain ⟨rfl, h4, h5, rfl⟩ := hI
  unfold v_5_lineEnd_3b
  exact br_i (fun _ => hq x4 h4 h5) fun hlt => bd_i (by omega) (by omega) (rh_i fun _ => br_i (fun _ => hq x4 h4 h5) fun _ => ov_i (by omega) (by omega) (ih _ _ _ ⟨rfl, by omega, by omega, rfl⟩ (by omega)))
theorem j_atomEnd {u : iST} {a n : Int} {Q : Int → iST → Prop} (a0 : 0 ≤ a) (a1 : a ≤ 3000) (hn : n ≤ 3000) (hq : ∀ b, a ≤ b → b ≤ 3000 → Q b u) : v_5_atomEnd a n Q u := by
  unfold v_5_atomEnd v_5_atomEnd_3
  refine lf2 (B := fun R x3 x4 u => v_5_atomEnd_3b R Q x3 x4 u) (fun x3 x4 v => n = x3 ∧ a ≤ x4 ∧ x4 ≤ 3000 ∧ u = v) (fun _ x4 _ => (3000 - x4).toNat) ?_ ⟨rfl, Int.le_refl _, a1, rfl⟩
  intro x3 x4 v hI R ih
  obtain ⟨rfl, h4, h5, rfl⟩ := hI
  unfold v_5_atomEnd_3b
  exact br_i (fun _ => hq x4 h4 h5) fun hlt => bd_i (by omega) (by omega) (rh_i fun _ => fun v2 _ => br_i (fun _ => hq x4 h4 h5) fun _ => ov_i (by omega) (by omega) (ih _ _ _ ⟨rfl, by omega, by omega, rfl⟩ (by omega)))
theorem j_atomCell {u : iST} {a b : Int} {Q : Int → iST → Prop} (a0 : 0 ≤ a) (b1 : b ≤ 3000) (hab : a ≤ b) (hq : ∀ x, Q x u) : v_5_atomCell a b Q u := by
  unfold v_5_atomCell v_5_atomCell_15
  refine lf7 (B := fun R x2 x3 x4 x6 x8 x9 x10 u => v_5_atomCell_15b R Q x2 x3 x4 x6 x8 x9 x10 u) (fun x2 x3 x4 x6 x8 x9 x10 v => a = x2 ∧ b = x3 ∧ a ≤ x10 ∧ u = v) (fun _ _ _ _ _ _ x10 _ => (3000 - x10).toNat) ?_ ⟨rfl, rfl, Int.le_refl _, rfl⟩
  intro x2 x3 x4 x6 x8 x9 x10 v hI R ih
  obtain ⟨rfl, rfl, h10, rfl⟩ := hI
  unfold v_5_atomCell_15b
  refine br_i (fun _ => br_i (fun _ => ov_i (by omega) (by omega) (br_i (fun _ => rl_i fun _ => hq _) fun _ => hq _)) fun _ => br_i (fun _ => hq _) fun _ => hq _) fun hlt => bd_i (by omega) (by omega) (rh_i fun hc => ?_)
  have k115 : ∀ y4 y8 y9 y11, v_5_atomCell_115 R Q a b y4 x6 y8 y9 x10 y11 u := by
    intro y4 y8 y9 y11
    unfold v_5_atomCell_115
    exact rl_i fun _ => fun v6 _ => rl_i fun _ => ov_i (by omega) (by omega) (ih _ _ _ _ _ _ _ _ ⟨rfl, rfl, by omega, rfl⟩ (by omega))
  have k92 : ∀ y8 y11 y12 y, v_5_atomCell_92 R Q a b x4 x6 y8 x10 y11 y12 y u := by
    intro y8 y11 y12 y
    unfold v_5_atomCell_92 v_5_atomCell_113
    exact br_i (fun _ => rl_i fun _ => rl_i fun _ => k115 _ _ _ _) fun _ => k115 _ _ _ _
  have k58 : ∀ y11 y12 y, v_5_atomCell_58 R Q a b x4 x6 x9 x10 y11 y12 y u := by
    intro y11 y12 y
    unfold v_5_atomCell_58 v_5_atomCell_87
    exact br_i (fun _ => k115 _ _ _ _) fun _ => br_i (fun _ => k92 _ _ _ _) fun _ => rl_i fun _ => ⟨by decide, br_i (fun _ => k92 _ _ _ _) fun _ => k92 _ _ _ _⟩
  have k57 : ∀ y11 y12, v_5_atomCell_57 R Q a b x4 x6 x9 x10 y11 y12 u := by
    intro y11 y12
    unfold v_5_atomCell_57
    exact k58 _ _ _
  have c0 : 0 ≤ u.2.1 44 x10 ∧ u.2.1 44 x10 < 65536 := hc
  exact ov_i (by omega) (by omega) (br_i (fun _ => k57 _ _) fun _ => br_i (fun _ => k57 _ _) fun _ => br_i (fun _ => k57 _ _) fun _ => k58 _ _ _)
theorem j_canStand {u0 u : iST} {c : Int} {Q : Int → iST → Prop} (h : RV u0 u) (hq : ∀ b, bz b → Q b u) : v_5_canStand c Q u := by
  have z := j_q hq
  have u17 := h.2.1
  unfold v_5_canStand
  exact rd_i fun _ => bd_i u17.1 (by omega) (rd_i fun _ => br_i (fun _ => br_i (fun _ => z.1) fun _ => z.2) fun _ => br_i (fun _ => z.2) fun _ => br_i (fun _ => br_i (fun _ => z.1) fun _ => br_i (fun _ => z.1) fun _ => z.2) fun _ => br_i (fun _ => br_i (fun _ => z.1) fun _ => z.2) fun _ => br_i (fun _ => br_i (fun _ => z.1) fun _ => br_i (fun _ => z.1) fun _ => z.2) fun _ => br_i (fun _ => z.1) fun _ => br_i (fun _ => z.1) fun _ => br_i (fun _ => z.1) fun _ => z.2)
theorem j_takeWord {u0 u : iST} {a n : Int} {Q : Int → iST → Prop} (h : RV u0 u) (a0 : 0 ≤ a) (a1 : a < 3000) (hn : n ≤ 3000) (hq : ∀ b v, a ≤ b → b ≤ 3000 → RV u0 v → Q b v) : v_5_takeWord a n Q u := by
  unfold v_5_takeWord
  refine bd_i a0 a1 (rh_i fun _ => j_atomEnd a0 (by omega) hn fun b b0 b1 => ?_)
  generalize u.2.1 44 a = c
  have u19 := h.2.2.2.1
  have k164 : ∀ y6 y8, (y6 ≠ 0 → 0 ≤ y8) → v_5_takeWord_164 Q a c b y6 y8 u := by
    intro y6 y8 hy
    unfold v_5_takeWord_164
    refine rd_i fun _ => br_i (fun hlt => rd_i fun _ => ov_i (by omega) (by omega) (sw_e fun w e => ?_)) fun _ => j_refuse h fun v vh => hq b v b0 b1 vh
    have wh : RV u0 w := h.s (by rw [e]; exact (RG.rf h.T).I _ (by decide) (by decide) (by decide)) (by
      have : w.1 19 = u.1 19 + 1 := by rw [e]; rfl
      omega)
    clear e
    exact br_i (fun _ => j_takeMark wh fun v vh => hq b v b0 b1 vh) fun h6 => j_made wh.T (fun z => by have := hy h6; omega) fun t v hv t0 t1 _ => j_deliver (wh.rm hv) t1 fun z zh => hq b z b0 b1 zh
  have k123 : ∀ y6 y7 y8, (y6 ≠ 0 → 0 ≤ y8) → v_5_takeWord_123 Q a c b y6 y7 y8 u := by
    intro y6 y7 y8 hy
    unfold v_5_takeWord_123
    exact j_canStand h fun b2 _ => br_i (fun _ => br_i (fun _ => k164 _ _ hy) fun _ => rd_i fun _ => br_i (fun _ => k164 _ _ hy) fun _ => j_refuse h fun v vh => hq b v b0 b1 vh) fun _ => j_refuse h fun v vh => hq b v b0 b1 vh
  have k102 : ∀ y6 y7 y8, v_5_takeWord_102 Q a c b y6 y7 y8 u := by
    intro y6 y7 y8
    unfold v_5_takeWord_102
    exact br_i (fun h6 => k123 _ _ _ (fun z => absurd h6 z)) fun _ => br_i (fun h8 => k123 _ _ _ (fun _ => h8)) fun _ => j_refuse h fun v vh => hq b v b0 b1 vh
  have k67 : ∀ y6 y7 y8, v_5_takeWord_67 Q a c b y6 y7 y8 u := by
    intro y6 y7 y8
    unfold v_5_takeWord_67
    exact br_i (fun _ => k102 _ _ _) fun _ => br_i (fun _ => k102 _ _ _) fun _ => br_i (fun _ => k102 _ _ _) fun _ => br_i (fun _ => k102 _ _ _) fun _ => j_refuse h fun v vh => hq b v b0 b1 vh
  have k46 : ∀ y6 y, v_5_takeWord_46 Q a c b y6 y u := by
    intro y6 y
    unfold v_5_takeWord_46
    exact br_i (fun _ => k67 _ _ _) fun _ => j_atomCell a0 b1 b0 fun x => k67 _ _ _
  have k25 : ∀ y, v_5_takeWord_25 Q a c b y u := by
    intro y
    unfold v_5_takeWord_25 v_5_takeWord_41
    exact br_i (fun _ => k46 _ _) fun _ => br_i (fun _ => k46 _ _) fun _ => k46 _ _
  exact br_i (fun _ => k25 _) fun _ => k25 _
theorem j_readText {u : iST} {n : Int} {Q : Int → iST → Prop} (hT : RT u) (n0 : 0 ≤ n) (hn : n ≤ 3000) (hq : ∀ t v, RG rdS rdR u v → t < v.1 29 → Q t v) : v_5_read n Q u := by
  have h44 := hT.1.1
  unfold v_5_read
  refine sw_e fun w1 e1 => sw_e fun w2 e2 => sw_e fun w3 e3 => sw_e fun w4 e4 => sw_e fun w5 e5 => sw_e fun w6 e6 => bd_i (by decide) (by decide) (sw_e fun w e => ?_)
  have wr : RG rdS rdR u w := by
    rw [e, e6, e5, e4, e3, e2, e1]
    exact ((((((((RG.rf hT).I _ (by decide) (by decide) (by decide)).I _ (by decide) (by decide) (by decide)).I _ (by decide) (by decide) (by decide)).I _ (by decide) (by decide) (by decide)).I _ (by decide) (by decide) (by decide)).I _ (by decide) (by decide) (by decide)).A _ _ (by decide) (by decide))
  have w17 : w.1 17 = 0 := by rw [e, e6, e5, e4, e3, e2, e1]; rfl
  have w18 : w.1 18 = 0 := by rw [e, e6, e5, e4, e3, e2]; rfl
  have w19 : w.1 19 = 0 := by rw [e, e6, e5, e4, e3]; rfl
  have w20 : w.1 20 = 0 := by rw [e, e6, e5, e4]; rfl
  have w29 : w.1 29 = u.1 29 := by rw [e, e6, e5, e4, e3, e2, e1]; rfl
  clear e e6 e5 e4 e3 e2 e1
  have wh : RV u w := ⟨wr, by omega, by omega, by omega, by omega, fun i i0 i1 => by omega, fun k k0 k1 => by omega⟩
  unfold v_5_read_39
  refine lf2 (B := fun R x2 x3 u => v_5_read_39b R Q x2 x3 u) (fun x2 x3 v => n = x2 ∧ 0 ≤ x3 ∧ RV u v) (fun _ x3 _ => (3000 - x3).toNat) ?_ ⟨rfl, Int.le_refl _, wh⟩
  intro x2 x3 v hI R ih
  obtain ⟨rfl, h3, vh⟩ := hI
  have k143 : ∀ z, RV u z → v_5_read_143 Q z := by
    intro z zh
    unfold v_5_read_143
    exact rd_i fun _ => hq _ z zh.1 zh.2.2.2.2.1
  have k119 : v_5_read_119 Q n v := by
    unfold v_5_read_119
    exact rd_i fun _ => br_i (fun _ => k143 v vh) fun _ => bd_i (by decide) (by decide) (rd_i fun _ => br_i (fun _ => k143 v vh) fun _ => j_refuse vh fun z zh => k143 z zh)
  unfold v_5_read_39b
  refine br_i (fun _ => k119) fun hlt => br_i (fun _ => k119) fun hlt2 => rd_i fun _ => br_i (fun _ => k119) fun _ => ov_i (by omega) (by omega) ?_
  have k107 : ∀ y z, x3 ≤ y → y ≤ 3001 → RV u z → v_5_read_107 R Q n x3 y z := by
    intro y z y0 y1 zh
    unfold v_5_read_107
    exact ov_i (by omega) (by omega) (rd_i fun _ => ih _ _ _ ⟨rfl, by split <;> omega, zh⟩ (by split <;> omega))
  exact bd_i h3 (by omega) (rh_i fun _ => br_i (fun _ => bd_i h3 (by omega) (rh_i fun _ => br_i (fun _ => k107 _ v (by omega) (by omega) vh) fun _ => bd_i h3 (by omega) (rh_i fun _ => br_i (fun _ => k107 _ v (by omega) (by omega) vh) fun _ => j_takeWord vh h3 (by omega) hn fun b z b0 b1 zh => k107 b z b0 (by omega) zh))) fun _ => j_lineEnd h3 (by omega) hn fun b b0 b1 => k107 b v b0 (by omega) vh)
