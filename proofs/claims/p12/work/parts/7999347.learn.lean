/-! the class: notes are asked again; rules are learned -/
theorem j_doNotesHold {u : iST} {Q : Int → iST → Prop} (hW : WK u) (hN : NF u) (h25 : 0 ≤ u.1 25 ∧ u.1 25 ≤ u.1 1) (h31 : 0 ≤ u.1 31 ∧ u.1 31 ≤ u.1 30) (hq : ∀ b v, bz b → RG (27 :: rwS) rwR u v → WK v → (0 ≤ v.1 31 ∧ v.1 31 ≤ v.1 30) → NF v → v.1 27 = 0 → Q b v) : v_6_doNotesHold Q u := by
  have hT := hW.1
  unfold v_6_doNotesHold
  refine zt_1 (sw_e fun a e => ?_)
  have ra : RG (27 :: rwS) rwR u a := by rw [e]; exact (RG.rf hT).I _ (by decide) (by decide) (by decide)
  have a2 : a.2 = u.2 := by rw [e]; rfl
  have ao : ∀ k, k ≠ 27 → a.1 k = u.1 k := fun k hk => by rw [e]; exact if_neg hk
  have a27 : a.1 27 = 1 := by rw [e]; rfl
  clear e
  have wk : ∀ {s t : iST}, WK s → RT t → Ce s t → (∀ k, k ≠ 27 → k ≠ 28 → t.1 k = s.1 k) → t.2 = s.2 → WK t := by
    intro s t h hT2 hC h1 h2
    obtain ⟨p1, p2, p3, p4, p5, p6, p7⟩ := h
    refine ⟨hT2, ⟨p2.1.keep (h1 0 (by decide) (by decide)) (h1 1 (by decide) (by decide)) (by rw [h2]) (by rw [h2]), fun d d0 d1 => ?_⟩, by rw [h1 37 (by decide) (by decide)]; exact p3, by rw [h1 38 (by decide) (by decide)]; exact p4, p5.keep (h1 1 (by decide) (by decide)) hC.1 (fun k _ => by rw [h2]), p6.keep (by rw [h2]), by rw [h1 39 (by decide) (by decide)]; exact p7⟩
    rw [h1 0 (by decide) (by decide)] at d1
    rw [h2]
    exact ⟨(p2.2 d d0 d1).1.ext p1 hC, (p2.2 d d0 d1).2⟩
  unfold v_6_doNotesHold_9
  refine lf2 (B := fun R x1 x2 u => v_6_doNotesHold_9b R Q x1 x2 u) (fun x1 x2 v => bz x1 ∧ 0 ≤ x2 ∧ RG (27 :: rwS) rwR u v ∧ v.1 27 = 1 ∧ WK v ∧ NF v ∧ (0 ≤ v.1 31 ∧ v.1 31 ≤ v.1 30)) (fun _ x2 _ => (1000 - x2).toNat) ?_ ⟨Or.inr rfl, Int.le_refl _, ra, a27, wk hW ra.1 ra.2.1 (fun k h1 _ => ao k h1) a2, hN.keep (ao 26 (by decide)) ra.2.1.1 (by rw [a2]), by rw [ao 31 (by decide), ao 30 (by decide)]; exact h31⟩
  intro x1 x2 v hI R ih
  obtain ⟨b1, x20, vr, v27, vW, vN, v31⟩ := hI
  have k90 : v_6_doNotesHold_90 Q x1 v := by
    unfold v_6_doNotesHold_90
    refine zt_0 (sw_e fun w e => sw_e fun z e2 => ⟨b1, ?_⟩)
    have zr : RG (27 :: rwS) rwR v z := by rw [e2, e]; exact ((RG.rf vr.1).I _ (by decide) (by decide) (by decide)).I _ (by decide) (by decide) (by decide)
    have z2 : z.2 = v.2 := by rw [e2, e]; rfl
    have zo : ∀ k, k ≠ 27 → k ≠ 28 → z.1 k = v.1 k := fun k h1 h2 => by
      rw [e2, e]
      show (if k = 28 then _ else if k = 27 then _ else v.1 k) = _
      rw [if_neg h2, if_neg h1]
    exact hq x1 z b1 (vr.tr zr) (wk vW zr.1 zr.2.1 zo z2) (by rw [zo 31 (by decide) (by decide), zo 30 (by decide) (by decide)]; exact v31) (vN.keep (zo 26 (by decide) (by decide)) zr.2.1.1 (by rw [z2])) (by rw [e2, e]; rfl)
  have n := vN.1
  unfold v_6_doNotesHold_9b
  refine rd_i fun _ => br_i (fun _ => k90) fun hlt => br_i (fun _ => k90) fun _ => ov_i (by omega) (by omega) (sw_e fun w e => bd_i x20 (by omega) (bd_i (by decide) (by decide) (rd_i fun _ => bd_i (by decide) (by decide) (rd_i fun _ => bd_i (by decide) (by decide) (rd_i fun _ => ?_)))))
  have wr : RG (27 :: rwS) rwR v w := by rw [e]; exact (RG.rf vr.1).I _ (by decide) (by decide) (by decide)
  have w2 : w.2 = v.2 := by rw [e]; rfl
  have wo : ∀ k, k ≠ 28 → w.1 k = v.1 k := fun k hk => by rw [e]; exact if_neg hk
  clear e
  have nk := vN.2 x2 x20 (by omega)
  have wN : NF w := vN.keep (wo 26 (by decide)) wr.2.1.1 (by rw [w2])
  rw [w2]
  refine j_rewritten (wk vW wr.1 wr.2.1 (fun k _ h2 => wo k h2) w2) wN (by rw [wo 25 (by decide), wo 1 (by decide), vr.s 25 (by decide), vr.s 1 (by decide)]; exact h25) (by rw [wo 31 (by decide), wo 30 (by decide)]; exact v31) (fun z => by rw [wo 27 (by decide), v27] at z; omega) (by rw [wo 29 (by decide)]; exact nk.1) (by rw [wo 29 (by decide)]; exact nk.2.1) fun t z hz zW z31 zN ht zt => rd_i fun _ => ?_
  have zN2 := zN (Or.inr (by rw [wo 27 (by decide), v27]; decide))
  have nx : ∀ b, bz b → ov (x2 + 1) (R b (x2 + 1) z) := fun b hb => ov_i (by omega) (by omega) (ih _ _ _ ⟨hb, by omega, (vr.tr wr).tr (hz.w (by decide) (by decide)), by rw [hz.s 27 (by decide), wo 27 (by decide)]; exact v27, zW, zN2, z31⟩ (by omega))
  exact br_i (fun _ => nx 0 (Or.inl rfl)) fun _ => bd_i (by decide) (by decide) (rd_i fun _ => br_i (fun _ => nx 0 (Or.inl rfl)) fun _ => rd_i fun _ => bd_i (by decide) (by decide) (rd_i fun _ => br_i (fun _ => nx 0 (Or.inl rfl)) fun _ => nx 1 (Or.inr rfl)))
/-- an item is older than what it is an item of -/
theorem j_itemM {u : iST} {x k m : Int} {Q : Int → iST → Prop} (hT : RT u) (k1 : k < 2147483647) (hx : x < m) (hm0 : 0 < m) (hq : ∀ b, 0 ≤ b → b < u.1 29 → b < m → Q b u) : v_7_item x k Q u := by
  have hm := hT.1.2
  have h44 := hT.1.1
  unfold v_7_item v_7_item_5
  refine lf3 (B := fun R x2 x3 x4 u => v_7_item_5b R Q x2 x3 x4 u) (fun x2 x3 x4 v => k = x2 ∧ u = v ∧ 0 ≤ x4 ∧ x3 < m) (fun _ _ x4 _ => (k - x4).toNat) ?_ ⟨rfl, rfl, Int.le_refl _, hx⟩
  intro x2 x3 x4 v hI R ih
  obtain ⟨rfl, rfl, h4, h3⟩ := hI
  have z : Q 0 u := hq 0 (by decide) (by omega) hm0
  unfold v_7_item_5b
  refine br_i (fun _ => br_i (fun h => z) fun h0 => rd_i fun _ => br_i (fun h => z) fun h1 => bd_i (by omega) (by omega) (rl_i fun _ => br_i (fun h => z) fun h2 => bd_i (by omega) (by omega) (rl_i fun _ => rl_i fun _ => rd_i fun _ => rd_i fun _ => ?_))) fun hlt => ?_
  · have q := hT.2.1 x3 ⟨by omega, by omega, by omega⟩
    exact hq _ (cL_r _).1 (show cL (u.2.2 x3) < u.1 29 by omega) (show cL (u.2.2 x3) < m by omega)
  · have nx : ∀ y, y < m → ov (x4 + 1) (R k y (x4 + 1) u) := fun y hy => ov_i (by omega) (by omega) (ih _ _ _ _ ⟨rfl, rfl, by omega, hy⟩ (by omega))
    refine br_i (fun _ => nx 0 hm0) fun h0 => rd_i fun _ => br_i (fun h => nx 0 hm0) fun h1 => bd_i (by omega) (by omega) (rl_i fun _ => br_i (fun h => nx 0 hm0) fun h2 => bd_i (by omega) (by omega) (rl_i fun _ => rd_i fun _ => rd_i fun _ => nx _ ?_))
    have q := hT.2.1 x3 ⟨by omega, by omega, by omega⟩
    show cR (u.2.2 x3) < m
    omega
abbrev lnS : List Nat := [29, 32, 39]
abbrev lnR : List Nat := [7, 8, 9, 10, 11, 12, 27, 28, 29, 30, 35, 36, 37, 38, 39, 40, 41, 42, 43, 50]
/-- only theorem t of the book is touched -/
def LnQ (t m : Int) (u v : iST) : Prop := RG lnS lnR u v ∧ (∀ k, k ≠ t → v.2.1 7 k = u.2.1 7 k ∧ v.2.1 8 k = u.2.1 8 k ∧ v.2.1 9 k = u.2.1 9 k) ∧ (∀ i, (i < 60 * t ∨ 60 * t + 60 ≤ i) → v.2.1 50 i = u.2.1 50 i) ∧ (0 ≤ v.2.1 9 t ∧ v.2.1 9 t ≤ 60 ∧ ∀ j, 0 ≤ j → j < v.2.1 9 t → v.2.1 50 (60 * t + j) < m) ∧ (0 ≤ v.1 39 ∧ v.1 39 ≤ 256)
theorem LnQ.rg {t m : Int} {u v w : iST} (h : LnQ t m u v) (g : RG tmS tmR v w) (h39 : 0 ≤ w.1 39 ∧ w.1 39 ≤ 256) : LnQ t m u w := by
  obtain ⟨a, b, c, d, e⟩ := h
  refine ⟨a.tr (g.w (by decide) (by decide)), fun k hk => ?_, fun i hi => ?_, ?_, h39⟩
  · rw [g.a 7 (by decide), g.a 8 (by decide), g.a 9 (by decide)]; exact b k hk
  · rw [g.a 50 (by decide)]; exact c i hi
  · rw [g.a 9 (by decide), g.a 50 (by decide)]; exact d
theorem LnQ.s41 {t m : Int} {u0 u w : iST} (h : LnQ t m u0 u) {i x : Int} (e : w = iA u 41 i x) : LnQ t m u0 w ∧ (∀ j, w.2.1 41 j = if j = i then x else u.2.1 41 j) ∧ w.2.1 7 = u.2.1 7 ∧ w.2.1 9 = u.2.1 9 := by
  refine ⟨h.rg ?_ ?_, fun j => by rw [e]; rfl, by rw [e]; rfl, by rw [e]; rfl⟩
  · rw [e]; exact (RG.rf h.1.1).A _ _ (by decide) (by decide)
  · rw [e]; exact h.2.2.2.2
theorem j_addHyp {u0 u : iST} {t x m : Int} {Q : iST → Prop} (h : LnQ t m u0 u) (t0 : 0 ≤ t) (t1 : t < 60) (hx : x < m) (hm : 0 < m) (hq : ∀ v, LnQ t m u0 v → v.2.1 7 t = u.2.1 7 t → Q v) : v_6_addHypotheses t x Q u := by
  unfold v_6_addHypotheses
  refine bd_i (by decide) (by decide) (sw_e fun a e => ?_)
  obtain ⟨aL, a41, a7, a9⟩ := h.s41 e
  clear e
  unfold v_6_addHypotheses_18
  refine lf3 (B := fun R x1 x4 x5 u => v_6_addHypotheses_18b R Q x1 x4 x5 u) (fun x1 x4 x5 v => t = x1 ∧ 0 ≤ x5 ∧ x4 ≤ 128 ∧ LnQ t m u0 v ∧ v.2.1 7 t = u.2.1 7 t ∧ ∀ i, 0 ≤ i → i < x4 → v.2.1 41 i < m) (fun _ _ x5 _ => (1000000 - x5).toNat) ?_ ⟨rfl, Int.le_refl _, by decide, aL, by rw [a7], fun i i0 i1 => by rw [a41, if_pos (by omega)]; exact hx⟩
  intro x1 x4 x5 v hI R ih
  obtain ⟨rfl, x50, x4l, vL, v7, vw⟩ := hI
  have vT := vL.1.1
  have d := vL.2.2.2.1
  unfold v_6_addHypotheses_18b
  refine br_i (fun _ => hq v vL v7) fun h5 => br_i (fun _ => hq v vL v7) fun h4 => ov_i (by omega) (by omega) (bd_i (by omega) (by omega) (rd_i fun _ => bd_i t0 t1 (rd_i fun _ => ?_)))
  have vx := vw (x4 + (-1)) (by omega) (by omega)
  have k121 : v_6_addHypotheses_121 R Q t (x4 + (-1)) x5 (v.2.1 41 (x4 + (-1))) (v.2.1 9 t) v := by
    unfold v_6_addHypotheses_121
    refine br_i (fun _ => ov_i (by omega) (by omega) (ih _ _ _ _ ⟨rfl, by omega, by omega, vL, v7, fun i i0 i1 => vw i i0 (by omega)⟩ (by omega))) fun hlt => bd_i t0 t1 (bd_i d.1 (by omega) (sw_e fun b e => bd_i t0 t1 (rd_i fun _ => ?_)))
    have b9 : b.2.1 9 = v.2.1 9 := by rw [e]; rfl
    rw [b9]
    refine ov_i (by omega) (by omega) (bd_i t0 t1 (sw_e fun c e2 => ov_i (by omega) (by omega) (ih _ _ _ _ ⟨rfl, by omega, by omega, ?_, ?_, fun i i0 i1 => ?_⟩ (by omega))))
    · obtain ⟨p1, p2, p3, p4, p5⟩ := vL
      have c7 : c.2.1 7 = v.2.1 7 := by rw [e2, e]; rfl
      have c8 : c.2.1 8 = v.2.1 8 := by rw [e2, e]; rfl
      have c9 : ∀ i, c.2.1 9 i = if i = t then v.2.1 9 t + 1 else v.2.1 9 i := fun i => by rw [e2, ← b9]; rfl
      have c50 : ∀ i, c.2.1 50 i = if i = 60 * t + v.2.1 9 t then v.2.1 41 (x4 + (-1)) else v.2.1 50 i := fun i => by rw [e2, e]; rfl
      refine ⟨?_, fun k hk => ?_, fun i hi => ?_, ?_, ?_⟩
      · rw [e2, e]; exact (p1.A _ _ (by decide) (by decide)).A _ _ (by decide) (by decide)
      · rw [c7, c8, c9, if_neg hk]; exact p2 k hk
      · rw [c50, if_neg (by omega)]; exact p3 i hi
      · rw [c9, if_pos rfl]
        refine ⟨by omega, by omega, fun j j0 j1 => ?_⟩
        rw [c50]
        by_cases ej : j = v.2.1 9 t
        · rw [if_pos (by omega)]; exact vx
        · rw [if_neg (by omega)]; exact d.2.2 j j0 (by omega)
      · rw [e2, e]; exact p5
    · rw [e2, e]; exact v7
    · rw [e2, e]; exact vw i i0 (by omega)
  refine j_isCallOf vT (fun _ _ => br_n (by decide) (j_item vT (by decide) fun b _ _ => br_i (fun _ => k121) fun _ => ov_i (by omega) (by omega) (br_i (fun _ => k121) fun hlt => j_itemM vT (by decide) vx hm fun b b0 b1 bm => bd_i (by omega) (by omega) (sw_e fun c e => ov_i (by omega) (by omega) ?_)))) fun _ => br_y rfl k121
  obtain ⟨cL2, c41, c7, c9⟩ := vL.s41 e
  clear e
  refine j_itemM cL2.1.1 (by decide) vx hm fun f f0 f1 fm => bd_i (by omega) (by omega) (sw_e fun g e => ov_i (by omega) (by omega) (ov_i (by omega) (by omega) (ih _ _ _ _ ⟨rfl, by omega, by omega, ?_, ?_, fun i i0 i1 => ?_⟩ (by omega))))
  · exact (cL2.s41 e).1
  · rw [(cL2.s41 e).2.2.1, c7]; exact v7
  · rw [(cL2.s41 e).2.1]
    by_cases ei : i = x4 + (-1) + 1
    · rw [if_pos ei]; exact fm
    · rw [if_neg ei, c41]
      by_cases ei2 : i = x4 + (-1)
      · rw [if_pos ei2]; exact bm
      · rw [if_neg ei2]; exact vw i i0 (by omega)
theorem j_isRule {u0 u : iST} {t x y m : Int} {Q : Int → iST → Prop} (h : LnQ t m u0 u) (t0 : 0 ≤ t) (t1 : t < 60) (hx : x < u.1 29) (hy : y < u.1 29) (hm : m ≤ u0.1 29) (hq : ∀ b v, bz b → LnQ t m u0 v → RG tmS tmR u v → Q b v) : v_6_isRule t x y Q u := by
  have k95 : ∀ v b, LnQ t m u0 v → RG tmS tmR u v → BV v → bz b → v_6_isRule_95 Q t x b 0 v := by
    intro v b vL vr vV hb
    unfold v_6_isRule_95
    refine lf4 (B := fun R x1 x2 x5 x6 u => v_6_isRule_95b R Q x1 x2 x5 x6 u) (fun x1 x2 x5 x6 w => t = x1 ∧ x = x2 ∧ bz x5 ∧ 0 ≤ x6 ∧ LnQ t m u0 w ∧ RG tmS tmR u w) (fun _ _ _ x6 _ => (60 - x6).toNat) ?_ ⟨rfl, rfl, hb, Int.le_refl _, vL, vr⟩
    intro x1 x2 x5 x6 w hI R ih
    obtain ⟨rfl, rfl, b5, x60, wL, wr⟩ := hI
    have d := wL.2.2.2.1
    unfold v_6_isRule_95b
    refine bd_i t0 t1 (rd_i fun _ => br_i (fun _ => ⟨b5, hq _ w b5 wL wr⟩) fun hlt => br_i (fun _ => ⟨b5, hq _ w b5 wL wr⟩) fun _ => bd_i t0 t1 (bd_i x60 (by omega) (rd_i fun _ => ?_)))
    have dj := d.2.2 x6 x60 (by omega)
    have := wL.1.2.1.1
    refine j_bindVariablesOf wr.1 (by omega) fun z hz zV => j_hasBound hz.1 ((wr.tr hz).up hx) zV.1 zV.2.1 fun c s hc hs => ov_i (by omega) (by omega) (ih _ _ _ _ _ ⟨rfl, rfl, hc, by omega, ?_, (wr.tr hz).tr (hs.w (by decide) (by decide))⟩ (by omega))
    exact (wL.rg hz ⟨zV.1, zV.2.1⟩).rg (hs.w (by decide) (by decide)) (by rw [hs.s 39 (by decide)]; exact ⟨zV.1, zV.2.1⟩)
  have k59 : ∀ b, bz b → v_6_isRule_59 Q t x y b u := by
    intro b hb
    unfold v_6_isRule_59
    refine j_bindVariablesOf h.1.1 hy fun z hz zV => ?_
    have zL := h.rg hz ⟨zV.1, zV.2.1⟩
    have k89 : ∀ s, LnQ t m u0 s → RG tmS tmR u s → BV s → v_6_isRule_89 Q t x s := by
      intro s sL sr sV
      unfold v_6_isRule_89 v_6_isRule_90
      exact k95 s 0 sL sr sV (Or.inl rfl)
    refine br_i (fun _ => k89 z zL hz zV) fun _ => j_hasBound hz.1 (hz.up hx) zV.1 zV.2.1 fun c s hc hs => ?_
    have sL : LnQ t m u0 s := zL.rg (hs.w (by decide) (by decide)) (by rw [hs.s 39 (by decide)]; exact ⟨zV.1, zV.2.1⟩)
    have sr : RG tmS tmR u s := hz.tr (hs.w (by decide) (by decide))
    have sV : BV s := zV.rg hs (by decide) (by decide)
    refine br_i (fun _ => k89 s sL sr sV) fun _ => ?_
    unfold v_6_isRule_90
    exact k95 s 1 sL sr sV (Or.inr rfl)
  have k58 : v_6_isRule_58 Q t x y u := by
    unfold v_6_isRule_58
    exact k59 0 (Or.inl rfl)
  have hT := h.1.1
  unfold v_6_isRule
  exact j_isCall hT (fun _ _ => br_n (by decide) (j_isCallOf hT (fun _ _ => br_y (by decide) k58) fun _ => br_n (fun z => z rfl) (j_isCallOf hT (fun _ _ => br_y (by decide) k58) fun _ => br_n (fun z => z rfl) (j_isCallOf hT (fun _ _ => br_y (by decide) k58) fun _ => br_n (fun z => z rfl) (br_i (fun _ => k58) fun _ => k59 1 (Or.inr rfl)))))) fun _ => br_y rfl k58
theorem j_learn {u : iST} {t m : Int} {Q : iST → Prop} (hT : RT u) (h39 : 0 ≤ u.1 39 ∧ u.1 39 ≤ 256) (ht : u.1 1 = t + 1) (t0 : 0 ≤ t) (t1 : t < 60) (hf : u.2.1 6 t < m) (hm0 : 44 ≤ m) (hm : m ≤ u.1 29) (h7 : u.2.1 7 t = -1) (hq : ∀ v, LnQ t m u v → (v.2.1 7 t ≠ -1 → v.2.1 8 t < m) → Q v) : v_6_learn Q u := by
  unfold v_6_learn
  refine rd_i fun _ => ?_
  rw [ht, show t + 1 - 1 = t from by omega]
  refine ov_i (by omega) (by omega) (br_i (fun _ => bd_i t0 t1 (rd_i fun _ => bd_i t0 t1 (sw_e fun a e => ?_))) fun h => absurd t0 h)
  have aL : LnQ t m u a := by
    have a9 : ∀ i, a.2.1 9 i = if i = t then 0 else u.2.1 9 i := fun i => by rw [e]; rfl
    refine ⟨by rw [e]; exact (RG.rf hT).A _ _ (by decide) (by decide), fun k hk => ⟨by rw [e]; rfl, by rw [e]; rfl, by rw [a9, if_neg hk]⟩, fun i _ => by rw [e]; rfl, ?_, by rw [e]; exact h39⟩
    rw [a9, if_pos rfl]
    exact ⟨by decide, by decide, fun j j0 j1 => by omega⟩
  have a7 : a.2.1 7 t = -1 := by rw [e]; exact h7
  clear e
  unfold v_6_learn_37
  refine lf3 (B := fun R x1 x2 x3 u => v_6_learn_37b R Q x1 x2 x3 u) (fun x1 x2 x3 v => t = x1 ∧ x2 < m ∧ 0 ≤ x3 ∧ LnQ t m u v ∧ v.2.1 7 t = -1) (fun _ _ x3 _ => (120 - x3).toNat) ?_ ⟨rfl, hf, Int.le_refl _, aL, a7⟩
  intro x1 x2 x3 v hI R ih
  obtain ⟨rfl, h2, h3, vL, v7⟩ := hI
  have vT := vL.1.1
  have vm : m ≤ v.1 29 := by have := vL.1.2.1.1; omega
  have k194 : ∀ x5 x6 y, bz y → x5 < m → x6 < m → v_6_learn_194 Q t x5 x6 t y v := by
    intro x5 x6 y hy h5 h6
    unfold v_6_learn_194
    refine ⟨hy, bd_i t0 t1 (sw_e fun w e => ?_)⟩
    have wL : LnQ t m u w := by
      obtain ⟨p1, p2, p3, p4, p5⟩ := vL
      rw [e]
      exact ⟨p1.A _ _ (by decide) (by decide), p2, p3, p4, p5⟩
    have w7 : w.2.1 7 t = -1 := by rw [e]; exact v7
    clear e
    have wm : m ≤ w.1 29 := by have := wL.1.2.1.1; omega
    refine j_isRule wL t0 t1 (by omega) (by omega) (by omega) fun b z hb zL zr => ?_
    have z7 : z.2.1 7 t = -1 := by rw [zr.a 7 (by decide)]; exact w7
    refine br_i (fun _ => hq z zL (fun q => absurd z7 q)) fun _ => bd_i t0 t1 (sw_e fun a e => bd_i t0 t1 (sw_e fun c e2 => ?_))
    have cL2 : LnQ t m u c := by
      obtain ⟨p1, p2, p3, p4, p5⟩ := zL
      have c7 : ∀ i, c.2.1 7 i = if i = t then x5 else z.2.1 7 i := fun i => by rw [e2, e]; rfl
      have c8 : ∀ i, c.2.1 8 i = if i = t then x6 else z.2.1 8 i := fun i => by rw [e2, e]; rfl
      have c9 : c.2.1 9 = z.2.1 9 := by rw [e2, e]; rfl
      have c50 : c.2.1 50 = z.2.1 50 := by rw [e2, e]; rfl
      refine ⟨by rw [e2, e]; exact (p1.A _ _ (by decide) (by decide)).A _ _ (by decide) (by decide), fun k hk => ?_, fun i hi => by rw [c50]; exact p3 i hi, by rw [c9, c50]; exact p4, by rw [e2, e]; exact p5⟩
      rw [c7, c8, c9, if_neg hk, if_neg hk]
      exact p2 k hk
    have c8 : c.2.1 8 t = x6 := by rw [e2]; exact if_pos rfl
    clear e e2
    have cm : m ≤ c.1 29 := by have := cL2.1.2.1.1; omega
    have k266 : ∀ s y, bz y → LnQ t m u s → s.2.1 8 t = x6 → v_6_learn_266 Q t t y s := by
      intro s y hy sL s8
      unfold v_6_learn_266
      refine ⟨hy, bd_i t0 t1 (sw_e fun p e => zt_1 (bd_i t0 t1 (sw_e fun q e2 => hq q ?_ (fun _ => ?_))))⟩
      · obtain ⟨p1, p2, p3, p4, p5⟩ := sL
        rw [e2, e]
        exact ⟨(p1.A _ _ (by decide) (by decide)).A _ _ (by decide) (by decide), p2, p3, p4, p5⟩
      · rw [e2, e]
        show s.2.1 8 t < m
        omega
    have k265 : ∀ s, LnQ t m u s → s.2.1 8 t = x6 → v_6_learn_265 Q t t s := by
      intro s sL s8
      unfold v_6_learn_265
      exact k266 s 0 (Or.inl rfl) sL s8
    refine j_matches cL2.1.1 (by omega) fun b2 s hb2 sr sV => ?_
    have sL : LnQ t m u s := cL2.rg sr ⟨sV.1, sV.2.1⟩
    have s8 : s.2.1 8 t = x6 := by rw [sr.a 8 (by decide)]; exact c8
    exact br_i (fun _ => k265 s sL s8) fun _ => j_isBoundToVariables sL.1.1 sV.1 sV.2.1 fun b3 _ => br_i (fun _ => k265 s sL s8) fun _ => k266 s 1 (Or.inr rfl) sL s8
  have k193 : ∀ x5 x6, x5 < m → x6 < m → v_6_learn_193 Q t x5 x6 t v := by
    intro x5 x6 h5 h6
    unfold v_6_learn_193
    exact k194 x5 x6 0 (Or.inl rfl) h5 h6
  have k158 : ∀ a3 a4 x5 y, x5 < m → y < m → v_6_learn_158 Q t a3 a4 x5 y v := by
    intro a3 a4 x5 y h5 hy
    unfold v_6_learn_158
    exact br_i (fun _ => k193 _ _ h5 hy) fun _ => br_i (fun _ => k193 _ _ h5 hy) fun _ => j_isBoolean vT fun b _ => br_i (fun _ => k193 _ _ h5 hy) fun _ => k194 _ _ 1 (Or.inr rfl) h5 hy
  have k130 : ∀ a3 a4 y, y < m → v_6_learn_130 Q t x2 a3 a4 y v := by
    intro a3 a4 y hy
    unfold v_6_learn_130
    exact br_i (fun _ => br_i (fun _ => k158 _ _ _ _ hy (by omega)) fun _ => k158 _ _ _ _ hy (by omega)) fun _ => j_itemM vT (by decide) h2 (by omega) fun b _ _ bm => k158 _ _ _ _ hy bm
  have k117 : ∀ a3 a4, v_6_learn_117 Q t x2 a3 a4 v := by
    intro a3 a4
    unfold v_6_learn_117
    exact j_itemM vT (by decide) h2 (by omega) fun b _ _ bm => k130 _ _ _ bm
  have k86 : v_6_learn_86 Q t x2 v := by
    unfold v_6_learn_86
    have k : ∀ v4, v_7_isCallOf x2 16 (fun v5 u => br (v4 ≠ 0) (v_6_learn_117 Q t x2 v4 v5 u) (br (v5 = 0) (v_6_learn_130 Q t x2 v4 v5 x2 u) (v_6_learn_117 Q t x2 v4 v5 u))) v := fun v4 => j_isCallOf vT (fun _ _ => br_i (fun _ => k117 _ _) fun _ => br_i (fun _ => k130 _ _ _ h2) fun _ => k117 _ _) fun _ => br_i (fun _ => k117 _ _) fun _ => br_i (fun _ => k130 _ _ _ h2) fun _ => k117 _ _
    exact j_isCallOf vT (fun _ _ => k 1) fun _ => k 0
  unfold v_6_learn_37b
  exact br_i (fun _ => k86) fun h120 => j_isCallOf vT (fun _ _ => br_n (by decide) (j_itemM vT (by decide) h2 (by omega) fun b _ _ bm => j_addHyp vL t0 t1 bm (by omega) fun w wL w7 => j_itemM wL.1.1 (by decide) h2 (by omega) fun c _ _ cm => ov_i (by omega) (by omega) (ih _ _ _ _ ⟨rfl, cm, by omega, wL, by rw [w7]; exact v7⟩ (by omega)))) fun _ => br_y rfl k86
