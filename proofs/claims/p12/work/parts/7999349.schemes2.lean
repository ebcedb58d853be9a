/-! the class: clauses of measures, of inductions, of uses -/
theorem RG.s2 {S R S' : List Nat} {u v : iST} (h : RG S R u v) (h1 : ∀ k ∈ S, k ∈ S') {k : Nat} (hk : k ∉ S') : v.1 k = u.1 k := h.s k (fun z => hk (h1 k z))
theorem WK.fb {u : iST} (h : WK u) {d : Int} (d0 : 0 ≤ d) (d1 : d < u.1 0) : u.2.1 3 d < u.1 29 ∧ 0 ≤ u.2.1 3 d ∧ (0 ≤ u.2.1 2 d ∧ u.2.1 2 d ≤ 6) ∧ d < 40 := by
  have q := h.2.1.2 d d0 d1
  have b := h.2.1.1.2.2 d d0 d1
  have := h.2.1.1.1
  exact ⟨q.1.st.1, q.2, ⟨b.1, b.2.1⟩, by omega⟩
theorem j_addIndHyp {u0 u : iST} {c x f y : Int} {G : Int → Prop} {Q : iST → Prop} (h : SH G u0 u) (c0 : 0 ≤ c) (c1 : c < 408) (f0 : 0 ≤ f) (f1 : f < u.1 0) (hx : x < u.1 29) (h34 : u.1 34 < u.1 29) (hq : ∀ v, SH G u0 v → v.1 33 = u.1 33 → v.1 34 = u.1 34 → v.1 13 = u.1 13 → u.1 29 ≤ v.1 29 → Q v) : v_8_addInductionHypotheses c x f y Q u := by
  have f40 := (h.2.1.fb f0 f1).2.2.2
  unfold v_8_addInductionHypotheses
  refine bd_i f0 f40 (rd_i fun _ => j_listCalls h.T h34 fun a ha a35 => ?_)
  unfold v_8_addInductionHypotheses_16
  refine lf5 (B := fun R x1 x2 x3 x4 x5 u => v_8_addInductionHypotheses_16b R Q x1 x2 x3 x4 x5 u) (fun x1 x2 x3 x4 x5 v => c = x1 ∧ x = x2 ∧ f = x3 ∧ y = x4 ∧ 0 ≤ x5 ∧ SH G u0 v ∧ (0 ≤ v.1 35 ∧ v.1 35 ≤ 128) ∧ v.1 33 = u.1 33 ∧ v.1 34 = u.1 34 ∧ v.1 13 = u.1 13 ∧ v.1 0 = u.1 0 ∧ u.1 29 ≤ v.1 29) (fun _ _ _ _ x5 _ => (128 - x5).toNat) ?_ ⟨rfl, rfl, rfl, rfl, Int.le_refl _, h.lc ha, a35, ha.s 33 (by decide), ha.s 34 (by decide), ha.s 13 (by decide), ha.s 0 (by decide), ha.2.1.1⟩
  intro x1 x2 x3 x4 x5 v hI R ih
  obtain ⟨rfl, rfl, rfl, rfl, h5, vh, v35, v33, v34, v13, v0, v29⟩ := hI
  unfold v_8_addInductionHypotheses_16b
  refine rd_i fun _ => br_i (fun _ => hq v vh v33 v34 v13 v29) fun hlt => rd_i fun _ => br_i (fun _ => hq v vh v33 v34 v13 v29) fun _ => bd_i f0 f40 (rd_i fun _ => j_bindRow vh.T fun b hb bV => ?_)
  have bh := vh.tm (hb.w (by decide) (by decide)) bV
  have vf := vh.2.1.fb f0 (by omega)
  unfold v_8_addInductionHypotheses_56
  refine lf6 (B := fun R56 x1 x2 x3 x4 x5 x6 u => v_8_addInductionHypotheses_56b R R56 Q x1 x2 x3 x4 x5 x6 u) (fun x1 x2 x3 x4 y5 x6 w => c = x1 ∧ x = x2 ∧ f = x3 ∧ y = x4 ∧ x5 = y5 ∧ 0 ≤ x6 ∧ SH G u0 w ∧ BV w ∧ RG shS shR v w ∧ (∀ k, k ∉ [29, 32, 39] → w.1 k = v.1 k) ∧ ∀ i, 0 ≤ i → i < x6 → w.2.1 34 i < w.1 29) (fun _ _ _ _ _ x6 _ => (6 - x6).toNat) ?_ ⟨rfl, rfl, rfl, rfl, rfl, Int.le_refl _, bh, bV, hb.w (by decide) (by decide), fun k hk => hb.s2 (S' := [29, 32, 39]) (by decide) hk, fun i i0 i1 => by omega⟩
  intro x1 x2 x3 x4 y5 x6 w hI2 R2 ih2
  obtain ⟨rfl, rfl, rfl, rfl, rfl, h6, wh, wV, wr, ws, wf⟩ := hI2
  have w2 : w.2.1 2 = v.2.1 2 := wr.a 2 (by decide)
  unfold v_8_addInductionHypotheses_56b
  refine bd_i f0 f40 (rd_i fun _ => ?_)
  rw [w2]
  refine br_i (fun _ => ?_) fun hlt6 => bd_i h5 (by omega) (rd_i fun _ => ov_i (by omega) (by omega) (j_item wh.T (by omega) fun d _ d1 => j_fill wh.T wh.2.1.rd d1 wV fun t z hz ht => bd_i h6 (by omega) (sw_e fun s e => ov_i (by omega) (by omega) (ih2 _ _ _ _ _ _ _ ⟨rfl, rfl, rfl, rfl, rfl, by omega, ?_, ?_, ?_, fun k hk => ?_, fun i i0 i1 => ?_⟩ (by omega)))))
  · unfold v_10_unbind
    refine sw_e fun s e => ?_
    have sr : RG [39] [] w s := by rw [e]; exact (RG.rf wh.T).I _ (by decide) (by decide) (by decide)
    have s39 : s.1 39 = 0 := by rw [e]; rfl
    clear e
    have sV : BV s := ⟨by omega, by omega, fun k k0 k1 => by omega⟩
    have sh := wh.tm (sr.w (by decide) (by decide)) sV
    have arE : x6 ≥ v.2.1 2 f := by omega
    unfold v_8_addInductionHypotheses_119
    refine lf6 (B := fun R119 x1 x2 x3 x4 x5 x6 u => v_8_addInductionHypotheses_119b R R119 Q x1 x2 x3 x4 x5 x6 u) (fun x1 x2 x3 x4 y5 y6 z => c = x1 ∧ x = x2 ∧ f = x3 ∧ y = x4 ∧ x5 = y5 ∧ 0 ≤ y6 ∧ SH G u0 z ∧ BV z ∧ RG shS shR v z ∧ (∀ k, k ∉ [29, 32, 39] → z.1 k = v.1 k) ∧ ∀ i, 0 ≤ i → i < x6 → z.2.1 34 i < z.1 29) (fun _ _ _ _ _ y6 _ => (6 - y6).toNat) ?_ ⟨rfl, rfl, rfl, rfl, rfl, Int.le_refl _, sh, sV, wr.tr (sr.w (by decide) (by decide)), fun k hk => (sr.s2 (S' := [29, 32, 39]) (by decide) hk).trans (ws k hk), fun i i0 i1 => by rw [sr.a 34 (by decide)]; exact sr.up (wf i i0 i1)⟩
    intro x1 x2 x3 x4 y5 y6 z hI3 R3 ih3
    obtain ⟨rfl, rfl, rfl, rfl, rfl, h7, zh, zV, zr, zs, zf⟩ := hI3
    have z2 : z.2.1 2 = v.2.1 2 := zr.a 2 (by decide)
    unfold v_8_addInductionHypotheses_119b
    refine bd_i f0 f40 (rd_i fun _ => ?_)
    rw [z2]
    refine br_i (fun _ => j_fill zh.T zh.2.1.rd (by have := zr.2.1.1; omega) zV fun t p hp ht => j_negated hp.1 ht fun t2 q hq2 ht2 => j_join hq2.1 ((zh.rb hp).rm hq2).2.2.1 c0 c1 ht2 fun r hr rC _ => ov_i (by omega) (by omega) (ih _ _ _ _ _ _ ⟨rfl, rfl, rfl, rfl, by omega, ((zh.rb hp).rm hq2).jn hr rC, ?_, ?_, ?_, ?_, ?_, ?_⟩ (by omega))) fun hlt7 => j_item zh.T (by omega) fun d _ d1 => bd_i h7 (by omega) (rd_i fun _ => j_bind zh.T zV (zf y6 h7 (by omega)) fun p hp pV => ov_i (by omega) (by omega) (ih3 _ _ _ _ _ _ _ ⟨rfl, rfl, rfl, rfl, rfl, by omega, zh.tm (hp.w (by decide) (by decide)) pV, pV, zr.tr (hp.w (by decide) (by decide)), fun k hk => (hp.s2 (S' := [29, 32, 39]) (by decide) hk).trans (zs k hk), fun i i0 i1 => by rw [hp.a 34 (by decide)]; exact hp.up (zf i i0 i1)⟩ (by omega)))
    · rw [hr.s 35 (by decide), hq2.s 35 (by decide), hp.s 35 (by decide), zs 35 (by decide)]; exact v35
    · rw [hr.s 33 (by decide), hq2.s 33 (by decide), hp.s 33 (by decide), zs 33 (by decide)]; exact v33
    · rw [hr.s 34 (by decide), hq2.s 34 (by decide), hp.s 34 (by decide), zs 34 (by decide)]; exact v34
    · rw [hr.s 13 (by decide), hq2.s 13 (by decide), hp.s 13 (by decide), zs 13 (by decide)]; exact v13
    · rw [hr.s 0 (by decide), hq2.s 0 (by decide), hp.s 0 (by decide), zs 0 (by decide)]; exact v0
    · have := zr.2.1.1
      have := hp.2.1.1
      have := hq2.2.1.1
      have := hr.2.1.1
      omega
  · have sr : RG [] [34] z s := by rw [e]; exact (RG.rf hz.1).A _ _ (by decide) (by decide)
    have zh := wh.rb hz
    exact zh.go sr (by decide) (by decide) (zh.2.2.1.rg sr (by decide) (by decide)) (by rw [sr.s 33 (by decide)]; exact zh.2.2.2.1) (by rw [sr.s 13 (by decide)]; exact zh.2.2.2.2) (by rw [sr.s 39 (by decide)]; exact zh.2.1.2.2.2.2.2.2)
  · rw [e]; exact (wV.rg hz (by decide) (by decide)).keep rfl rfl (Int.le_refl _)
  · rw [e]; exact (wr.tr (hz.w (by decide) (by decide))).A _ _ (by decide) (by decide)
  · have : s.1 k = z.1 k := by rw [e]; rfl
    rw [this, hz.s2 (S' := [29, 32, 39]) (by decide) hk]
    exact ws k hk
  · have s34 : s.2.1 34 i = if i = x6 then t else z.2.1 34 i := by rw [e]; rfl
    have s29 : s.1 29 = z.1 29 := by rw [e]; rfl
    rw [s34, s29]
    by_cases ei : i = x6
    · rw [if_pos ei]; exact ht
    · rw [if_neg ei, hz.a 34 (by decide)]; exact hz.up (wf i i0 (by omega))
theorem j_addMeasure {u0 u : iST} {x p b m : Int} {E : Int → Prop} {Q : iST → Prop} (h : SH (fun c => c < u.1 13 ∨ E c) u0 u) (hb : b < u.1 29) (hm : m < u.1 29) (hq : ∀ v, SH (fun c => c < v.1 13 ∨ E c) u0 v → Q v) : v_8_addMeasureClauses x p b m Q u := by
  unfold v_8_addMeasureClauses
  refine j_goToPath h.T h.2.2.2.1 hb fun b2 a hb2 ha a33 a34 => ?_
  have a13 : a.1 13 = u.1 13 := ha.s 13 (by decide)
  unfold v_8_addMeasureClauses_11
  refine lf5 (B := fun R x2 x3 x5 x6 x7 u => v_8_addMeasureClauses_11b R Q x2 x3 x5 x6 x7 u) (fun x2 x3 x5 x6 x7 v => x = x2 ∧ p = x3 ∧ m = x5 ∧ 0 ≤ x7 ∧ SH (fun c => c < v.1 13 ∨ E c) u0 v ∧ (x6 ≠ 0 → v.1 34 < v.1 29) ∧ m < v.1 29) (fun _ _ _ _ x7 _ => (1000000 - x7).toNat) ?_ ⟨rfl, rfl, rfl, Int.le_refl _, by rw [a13]; exact h.pt ha a33, a34, ha.up hm⟩
  intro x2 x3 x5 x6 x7 v hI R ih
  obtain ⟨rfl, rfl, rfl, h7, vh, v34, vm⟩ := hI
  unfold v_8_addMeasureClauses_11b
  refine br_i (fun _ => hq v vh) fun hlt => br_i (fun _ => hq v vh) fun h6 => rd_i fun _ => br_i (fun _ => hq v vh) fun _ => j_listCalls vh.T (v34 h6) fun w hw w35 => ?_
  have w13 : w.1 13 = v.1 13 := hw.s 13 (by decide)
  unfold v_8_addMeasureClauses_41
  refine lf5 (B := fun R41 x2 x3 x5 x7 x8 u => v_8_addMeasureClauses_41b R R41 Q x2 x3 x5 x7 x8 u) (fun x2 x3 x5 y7 x8 z => x = x2 ∧ p = x3 ∧ m = x5 ∧ x7 = y7 ∧ 0 ≤ x8 ∧ SH (fun c => c < z.1 13 ∨ E c) u0 z ∧ (0 ≤ z.1 35 ∧ z.1 35 ≤ 128) ∧ m < z.1 29) (fun _ _ _ _ x8 _ => (128 - x8).toNat) ?_ ⟨rfl, rfl, rfl, rfl, Int.le_refl _, by rw [w13]; exact vh.lc hw, w35, hw.up vm⟩
  intro x2 x3 x5 y7 x8 z hI2 R2 ih2
  obtain ⟨rfl, rfl, rfl, rfl, h8, zh, z35, zm⟩ := hI2
  have z44 := zh.T.1.1
  have k133 : v_8_addMeasureClauses_133 R Q x p m x7 z := by
    unfold v_8_addMeasureClauses_133
    refine j_goToPath zh.T zh.2.2.2.1 (by omega) fun b3 s hb3 hs s33 s34 => ov_i (by omega) (by omega) (ih _ _ _ _ _ _ ⟨rfl, rfl, rfl, by omega, ?_, s34, hs.up zm⟩ (by omega))
    rw [hs.s 13 (by decide)]
    exact zh.pt hs s33
  unfold v_8_addMeasureClauses_41b
  refine rd_i fun _ => br_i (fun _ => k133) fun hlt8 => rd_i fun _ => br_i (fun _ => k133) fun _ => j_newClause zh fun c s c0 c1 sh s33 s34 s35 s29 => j_addRulers sh c0 c1 fun t th t33 t34 t35 t13 t29 => bd_i h8 (by omega) (rd_i fun _ => j_right th.T (j_bindRow th.T fun q hq2 qV => ?_))
  have qh := th.tm (hq2.w (by decide) (by decide)) qV
  have q29 := hq2.2.1.1
  refine j_fill qh.T qh.2.1.rd (by omega) qV fun e r hr he => ?_
  have r29 := hr.2.1.1
  have r44 := hr.1.1.1
  refine j_call hr.1 (by omega) he (by omega) (by omega) fun g i hi hg => j_join hi.1 ((qh.rb hr).rm hi).2.2.1 c0 c1 hg fun j hj jC _ => ov_i (by omega) (by omega) (ih2 _ _ _ _ _ _ ⟨rfl, rfl, rfl, rfl, by omega, ?_, ?_, ?_⟩ (by omega))
  · have e13 : j.1 13 = s.1 13 := by rw [hj.s 13 (by decide), hi.s 13 (by decide), hr.s 13 (by decide), hq2.s 13 (by decide), t13]
    rw [e13]
    exact ((qh.rb hr).rm hi).jn hj jC
  · rw [hj.s 35 (by decide), hi.s 35 (by decide), hr.s 35 (by decide), hq2.s 35 (by decide), t35, s35]; exact z35
  · have := hj.2.1.1
    have := hi.2.1.1
    omega
theorem j_mute {u : iST} {x : Int} {Q : iST → Prop} (hT : RT u) (h1 : 0 ≤ u.1 1 ∧ u.1 1 ≤ 60) (hq : ∀ v, RG [] [13] u v → Q v) : v_8_mute x Q u := by
  unfold v_8_mute v_8_mute_2
  refine lf1 (B := fun R x2 u => v_8_mute_2b R Q x2 u) (fun x2 v => RG [] [13] u v) (fun x2 _ => x2.toNat) ?_ (RG.rf hT)
  intro x2 v vr R ih
  have vT := vr.1
  have v1 : v.1 1 = u.1 1 := vr.s 1 (by decide)
  unfold v_8_mute_2b
  refine j_isPair vT (fun hp => br_n (by decide) (j_left vT (j_left vT ?_))) fun _ => br_y rfl (hq v vr)
  have k47 : ∀ y, v_8_mute_47 R Q x2 y v := by
    intro y
    unfold v_8_mute_47 v_8_mute_53
    refine lf2 (B := fun R53 x2 x5 u => v_8_mute_53b R R53 Q x2 x5 u) (fun y2 x5 w => x2 = y2 ∧ RG [] [13] u w ∧ pr w x2) (fun _ x5 _ => x5.toNat) ?_ ⟨rfl, vr, hp⟩
    intro y2 x5 w hI R2 ih2
    obtain ⟨rfl, wr, wp⟩ := hI
    have wT := wr.1
    have w1 : w.1 1 = u.1 1 := wr.s 1 (by decide)
    unfold v_8_mute_53b
    refine j_isPair wT (fun hp5 => br_n (by decide) (j_left wT (j_theoremOf (by omega) (by omega) fun r hr => ?_))) fun _ => br_y rfl (j_right wT (ih _ _ wr ?_))
    · have k100 : ∀ s, RG [] [13] u s → Ce w s → v_8_mute_100 R R2 Q x2 x5 s := by
        intro s sr sC
        unfold v_8_mute_100
        refine j_right sr.1 (ih2 _ _ _ ⟨rfl, sr, sC.prx wp⟩ ?_)
        have q := eR_r sr.1 x5
        have := q.2.2 (sC.prx hp5)
        omega
      refine br_i (fun _ => k100 w wr (Ce.rf w)) fun hne => ?_
      obtain ⟨r0, r1, _⟩ := hr.resolve_left hne
      refine zt_1 (bd_i r0 (by omega) (sw_e fun s e => k100 s ?_ ?_))
      · rw [e]; exact wr.A _ _ (by decide) (by decide)
      · rw [e]; exact ⟨Int.le_refl _, fun _ _ _ => rfl⟩
    · have q := eR_r wT x2
      have := q.2.2 wp
      omega
  exact br_i (fun _ => k47 0) fun _ => j_right vT (k47 _)
theorem j_addUses {u0 u : iST} {c x : Int} {G : Int → Prop} {Q : iST → Prop} (h : SH G u0 u) (c0 : 0 ≤ c) (c1 : c < 408) (hq : ∀ v, SH G u0 v → v.1 13 = u.1 13 → u.1 29 ≤ v.1 29 → Q v) : v_8_addUses c x Q u := by
  unfold v_8_addUses v_8_addUses_2
  refine lf2 (B := fun R x1 x3 u => v_8_addUses_2b R Q x1 x3 u) (fun x1 x3 v => c = x1 ∧ SH G u0 v ∧ v.1 13 = u.1 13 ∧ u.1 29 ≤ v.1 29) (fun _ x3 _ => x3.toNat) ?_ ⟨rfl, h, rfl, Int.le_refl _⟩
  intro x1 x3 v hI R ih
  obtain ⟨rfl, vh, v13, v29⟩ := hI
  have vT := vh.T
  have bn := vh.2.1.2.1.1.2.1
  unfold v_8_addUses_2b
  refine j_isPair vT (fun hp => br_n (by decide) (rd_i fun _ => br_i (fun _ => hq v vh v13 v29) fun _ => j_left vT (j_item vT (by decide) fun a _ _ => j_theoremOf bn.1 bn.2 fun r hr => j_left vT ?_))) fun _ => br_y rfl (hq v vh v13 v29)
  have k129 : ∀ s, SH G u0 s → s.1 13 = u.1 13 → u.1 29 ≤ s.1 29 → pr s x3 → v_8_addUses_129 R Q c x3 s := by
    intro s sh s13 s29 sp
    unfold v_8_addUses_129
    refine j_right sh.T (ih _ _ _ ⟨rfl, sh, s13, s29⟩ ?_)
    have q := eR_r sh.T x3
    have := q.2.2 sp
    omega
  refine br_i (fun _ => k129 v vh v13 v29 hp) fun _ => br_i (fun _ => k129 v vh v13 v29 hp) fun hne => j_right vT (j_right vT (j_bindPairs vT vh.2.1.rd (eR_r vT _).2.1 fun b w hb hw wV => ?_))
  obtain ⟨r0, r1, _⟩ := hr.resolve_left hne
  have tb := (vh.2.1.2.2.2.2.1 r r0 r1).1
  have wh := vh.tm hw wV
  have w6 : w.2.1 6 = v.2.1 6 := hw.a 6 (by decide)
  refine bd_i r0 (by omega) (rd_i fun _ => ?_)
  rw [w6]
  refine j_fill wh.T wh.2.1.rd (hw.up tb) wV fun t s hs ht => j_negated hs.1 ht fun t2 p hp2 ht2 => j_join hp2.1 ((wh.rb hs).rm hp2).2.2.1 c0 c1 ht2 fun q hq2 qC _ => k129 q (((wh.rb hs).rm hp2).jn hq2 qC) ?_ ?_ ?_
  · rw [hq2.s 13 (by decide), hp2.s 13 (by decide), hs.s 13 (by decide), hw.s 13 (by decide)]; exact v13
  · have := hq2.2.1.1
    have := hp2.2.1.1
    have := hs.2.1.1
    have := hw.2.1.1
    omega
  · exact (((hw.2.1.tr hs.2.1).tr hp2.2.1).tr hq2.2.1).prx hp
theorem j_addTheorem {u0 u : iST} {x y : Int} {E : Int → Prop} {Q : iST → Prop} (h : SH (fun c => c < u.1 13 ∨ E c) u0 u) (hx : x < u.1 29) (hq : ∀ v, SH (fun c => c < v.1 13 ∨ E c) u0 v → Q v) : v_8_addTheoremClauses x y Q u := by
  unfold v_8_addTheoremClauses
  refine j_clear h.T h.2.2.1 fun a ha aC _ => ?_
  have a13 : a.1 13 = u.1 13 := ha.s 13 (by decide)
  have ah := h.cl ha aC
  refine j_addUses ah (by decide) (by decide) fun b bh b13 b29 => rd_i fun _ => ?_
  have bx : x < b.1 29 := by have := ha.2.1.1; omega
  have bn := bh.2.1.2.1.1.1
  -- with the spare clause among the valid ones
  have bh2 : SH (fun c => c < b.1 13 ∨ (E c ∨ c = 150)) u0 b := bh.less (fun c hc => by
    rcases hc with hc | hc | hc
    · exact Or.inl (Or.inl (by omega))
    · exact Or.inl (Or.inr hc)
    · exact Or.inr hc)
  have fin : ∀ v, SH (fun c => c < v.1 13 ∨ (E c ∨ c = 150)) u0 v → Q v := fun v vh => hq v (vh.less (fun c hc => hc.imp id Or.inl))
  have k48 : ∀ f, (f = -1 ∨ (0 ≤ f ∧ f < b.1 0)) → v_8_addTheoremClauses_48 Q x 150 f b := by
    intro f hf
    unfold v_8_addTheoremClauses_48
    refine br_i (fun hne => ?_) fun _ => j_newClause bh2 fun c v c0 c1 vh v33 v34 v35 v29 => j_copy vh.T vh.2.2.1 c0 c1 (by decide) (by decide) (Or.inr (Or.inr rfl)) fun w hw wC _ _ => ?_
    · obtain ⟨f0, f1⟩ := hf.resolve_left hne
      have q := bh.2.1.fb f0 f1
      refine bd_i f0 q.2.2.2 (rd_i fun _ => j_goToPath bh.T bh.2.2.2.1 q.1 fun b2 v hb2 hv v33 v34 => ?_)
      have v13 : v.1 13 = b.1 13 := hv.s 13 (by decide)
      unfold v_8_addTheoremClauses_99
      refine lf5 (B := fun R x2 x4 x5 x6 x7 u => v_8_addTheoremClauses_99b R Q x2 x4 x5 x6 x7 u) (fun x2 x4 x5 x6 x7 w => x = x2 ∧ 150 = x4 ∧ f = x5 ∧ 0 ≤ x7 ∧ SH (fun c => c < w.1 13 ∨ (E c ∨ c = 150)) u0 w ∧ (x6 ≠ 0 → w.1 34 < w.1 29) ∧ w.1 0 = b.1 0 ∧ x < w.1 29) (fun _ _ _ _ x7 _ => (1000000 - x7).toNat) ?_ ⟨rfl, rfl, rfl, Int.le_refl _, by rw [v13]; exact bh2.pt hv v33, v34, hv.s 0 (by decide), hv.up bx⟩
      intro x2 x4 x5 x6 x7 w hI R ih
      obtain ⟨rfl, rfl, rfl, h7, wh, w34, w0, wx⟩ := hI
      unfold v_8_addTheoremClauses_99b
      refine br_i (fun _ => fin w wh) fun hlt => br_i (fun _ => fin w wh) fun h6 => rd_i fun _ => br_i (fun _ => fin w wh) fun _ => j_newClause wh fun c z c0 c1 zh z33 z34 z35 z29 => j_copy zh.T zh.2.2.1 c0 c1 (by decide) (by decide) (Or.inr (Or.inr rfl)) fun s hs sC _ _ => ?_
      have sh : SH (fun c => c < z.1 13 ∨ (E c ∨ c = 150)) u0 s := zh.cl hs (sC.less (fun c hc => Or.inl hc))
      refine bd_i f0 q.2.2.2 (rd_i fun _ => rd_i fun _ => j_right sh.T (j_addRulers sh c0 c1 fun t th t33 t34 t35 t13 t29 => rd_i fun _ => j_right th.T ?_))
      have w34 := w34 h6
      have s34 : s.1 34 = z.1 34 := hs.s 34 (by decide)
      have s29 := hs.2.1.1
      refine j_addIndHyp th c0 c1 f0 ?_ (by omega) (by omega) fun p ph p33 p34 p13 p29 => j_join ph.T ph.2.2.1 c0 c1 (by omega) fun r hr rC _ => ?_
      · have e1 := th.1.s 0 (by decide)
        have e2 := wh.1.s 0 (by decide)
        omega
      have rh := ph.jn hr rC
      have r44 := rh.T.1.1
      refine j_goToPath rh.T rh.2.2.2.1 (by omega) fun b3 i hb3 hi i33 i34 => ov_i (by omega) (by omega) (ih _ _ _ _ _ _ ⟨rfl, rfl, rfl, by omega, ?_, i34, ?_, ?_⟩ (by omega))
      · have e13 : i.1 13 = z.1 13 := by rw [hi.s 13 (by decide), hr.s 13 (by decide), p13, t13, hs.s 13 (by decide)]
        rw [e13]
        have := rh.pt hi i33
        exact this
      · have e1 := rh.1.s 0 (by decide)
        have e2 := wh.1.s 0 (by decide)
        have e3 := hi.s 0 (by decide)
        omega
      · have := hi.2.1.1
        have := hr.2.1.1
        omega
    · have wh : SH (fun c => c < v.1 13 ∨ (E c ∨ c = 150)) u0 w := vh.cl hw (wC.less (fun c hc => Or.inl hc))
      have w29 := hw.2.1.1
      refine j_join wh.T wh.2.2.1 c0 c1 (by omega) fun z hz zC _ => fin z ?_
      have e13 : z.1 13 = v.1 13 := by rw [hz.s 13 (by decide), hw.s 13 (by decide)]
      rw [e13]
      exact wh.jn hz zC
  exact br_i (fun _ => rd_i fun _ => j_left bh.T (j_functionOf bn.1 bn.2 fun r hr => k48 r (hr.imp id (fun z => ⟨z.1, z.2.1⟩)))) fun _ => k48 (-1) (Or.inl rfl)
/-! hints -/
theorem j_indAsked {u : iST} {x : Int} {Q : Int → iST → Prop} (hT : RT u) (h0 : 0 ≤ u.1 0 ∧ u.1 0 ≤ 40) (hq : ∀ a, 0 ≤ a → a ≤ 3 → Q a u) : v_8_inductionAsked x Q u := by
  have k106 : ∀ y, v_8_inductionAsked_106 Q y u := fun y => by
    unfold v_8_inductionAsked_106
    exact br_i (fun _ => hq 2 (by decide) (by decide)) fun _ => hq 0 (by decide) (by decide)
  have k105 : v_8_inductionAsked_105 Q u := by
    unfold v_8_inductionAsked_105
    exact k106 0
  have q2 : Q 2 u := hq 2 (by decide) (by decide)
  unfold v_8_inductionAsked
  refine j_left hT (j_lengthOf hT (ov_i (by decide) (by decide) (br_y (by decide) q2)) fun n hn _ => ov_i (by omega) (by omega) (br_i (fun _ => q2) fun _ => j_isName hT fun b _ _ => br_i (fun _ => q2) fun _ => j_right hT (j_areDiff hT fun b2 _ => br_i (fun _ => j_functionOf h0.1 h0.2 fun r hr => br_i (fun hne => ?_) fun _ => hq 3 (by decide) (by decide)) fun _ => q2)))
  obtain ⟨r0, r1, _⟩ := hr.resolve_left hne
  exact bd_i r0 (by omega) (rd_i fun _ => br_i (fun _ => k105) fun _ => bd_i r0 (by omega) (rd_i fun _ => br_i (fun _ => k105) fun _ => k106 1))
theorem j_offAsked {u : iST} {x : Int} {Q : Int → iST → Prop} (hT : RT u) (h1 : 0 ≤ u.1 1 ∧ u.1 1 ≤ 60) (hq : ∀ a, 0 ≤ a → a ≤ 3 → Q a u) : v_8_offAsked x Q u := by
  unfold v_8_offAsked v_8_offAsked_4
  refine lf2 (B := fun R x2 x3 u => v_8_offAsked_4b R Q x2 x3 u) (fun x2 x3 v => 0 ≤ x2 ∧ x2 ≤ 3 ∧ u = v) (fun _ x3 _ => x3.toNat) ?_ ⟨by decide, by decide, rfl⟩
  intro x2 x3 v hI R ih
  obtain ⟨p0, p1, rfl⟩ := hI
  unfold v_8_offAsked_4b
  refine j_isPair hT (fun hp => br_n (by decide) (j_left hT (j_isName hT fun b _ _ => br_i (fun _ => j_left hT (j_theoremOf h1.1 h1.2 fun r _ => ?_)) fun _ => hq 2 (by decide) (by decide)))) fun _ => br_y rfl (hq x2 p0 p1)
  have k59 : ∀ y, 0 ≤ y → y ≤ 3 → v_8_offAsked_59 R Q x3 y u := fun y y0 y1 => by
    unfold v_8_offAsked_59
    refine j_right hT (ih _ _ _ ⟨y0, y1, rfl⟩ ?_)
    have q := eR_r hT x3
    have := q.2.2 hp
    omega
  exact br_i (fun _ => k59 _ p0 p1) fun _ => k59 3 (by decide) (by decide)
theorem j_useAsked {u : iST} {x y : Int} {Q : Int → iST → Prop} (hW : WK u) (hy : y < u.1 29) (hq : ∀ a v, 0 ≤ a → a ≤ 3 → RG tmS tmR u v → WK v → Q a v) : v_8_useAsked x y Q u := by
  have hT := hW.1
  unfold v_8_useAsked
  refine j_isName hT fun b _ _ => br_i (fun _ => hq 2 u (by decide) (by decide) (RG.rf hT) hW) fun _ => j_bindPairs hT hW.rd hy fun b v hb hv vV => ?_
  have vW : WK v := hW.tm hv vV
  refine br_i (fun _ => j_theoremOf vW.2.1.1.2.1.1 vW.2.1.1.2.1.2 fun r hr => br_i (fun hne => ?_) fun _ => hq 3 v (by decide) (by decide) hv vW) fun _ => hq 2 v (by decide) (by decide) hv vW
  obtain ⟨r0, r1, _⟩ := hr.resolve_left hne
  have b60 := vW.2.1.1.2.1.2
  have tb := (vW.2.2.2.2.1 r r0 r1).1
  refine bd_i r0 (by omega) (rd_i fun _ => j_hasBound vW.1 tb vV.1 vV.2.1 fun c w hc hw => ?_)
  have wW : WK w := vW.k hw (by decide) (by decide) (by decide) (by decide)
  have wr : RG tmS tmR u w := hv.tr (hw.w (by decide) (by decide))
  exact br_i (fun _ => hq 2 w (by decide) (by decide) wr wW) fun _ => hq 0 w (by decide) (by decide) wr wW
abbrev hiS : List Nat := [29, 32, 36, 39]
theorem j_hintsAsked {u : iST} {x : Int} {Q : Int → iST → Prop} (hW : WK u) (hq : ∀ a v, 0 ≤ a → a ≤ 3 → RG hiS tmR u v → WK v → Q a v) : v_8_hintsAsked x Q u := by
  unfold v_8_hintsAsked
  refine sw_e fun a e => ?_
  have ar : RG hiS tmR u a := by rw [e]; exact (RG.rf hW.1).I _ (by decide) (by decide) (by decide)
  have ar2 : RG [36] [] u a := by rw [e]; exact (RG.rf hW.1).I _ (by decide) (by decide) (by decide)
  have aW : WK a := hW.k ar2 (by decide) (by decide) (by decide) (by decide)
  clear e
  unfold v_8_hintsAsked_12
  refine lf3 (B := fun R x2 x3 x4 u => v_8_hintsAsked_12b R Q x2 x3 x4 u) (fun x2 x3 x4 v => 0 ≤ x2 ∧ x2 ≤ 3 ∧ RG hiS tmR u v ∧ WK v) (fun _ _ x4 _ => x4.toNat) ?_ ⟨by decide, by decide, ar, aW⟩
  intro x2 x3 x4 v hI R ih
  obtain ⟨p0, p1, vr, vW⟩ := hI
  have vT := vW.1
  have b0 := vW.2.1.1.1
  have b1 := vW.2.1.1.2.1
  unfold v_8_hintsAsked_12b
  refine j_isPair vT (fun hp => br_n (by decide) (j_left vT ?_)) fun _ => br_y rfl (hq x2 v p0 p1 vr vW)
  have k188 : ∀ y3 y8 w, 0 ≤ y8 → y8 ≤ 3 → RG hiS tmR u w → WK w → pr w x4 → v_8_hintsAsked_188 R Q x2 y3 x4 y8 w := by
    intro y3 y8 w y0 y1 wr wW wp
    unfold v_8_hintsAsked_188
    refine br_i (fun _ => rd_i fun _ => j_right wW.1 (ih _ _ _ _ ⟨by split <;> omega, by split <;> omega, wr, wW⟩ ?_)) fun _ => hq y8 w y0 y1 wr wW
    have q := eR_r wW.1 x4
    have := q.2.2 wp
    omega
  have k118 : ∀ y7, v_8_hintsAsked_118 R Q x2 x3 x4 (eL v x4) y7 2 v := by
    intro y7
    unfold v_8_hintsAsked_118
    exact br_i (fun _ => br_i (fun _ => k188 _ 2 v (by decide) (by decide) vr vW hp) fun _ => br_i (fun _ => k188 _ 2 v (by decide) (by decide) vr vW hp) fun _ => j_right vT (j_offAsked vT b1 fun a a0 a1 => k188 _ a v a0 a1 vr vW hp)) fun _ => j_item vT (by decide) fun b _ _ => j_right vT (j_right vT (j_useAsked vW (eR_r vT _).2.1 fun a w a0 a1 wr wW => k188 _ a w a0 a1 (vr.tr (wr.w (by decide) (by decide))) wW (wr.2.1.prx hp)))
  have k65 : ∀ y6 y, v_8_hintsAsked_65 R Q x2 x3 x4 (eL v x4) y6 y v := by
    intro y6 y
    unfold v_8_hintsAsked_65
    refine br_i (fun _ => k118 _) fun _ => br_i (fun _ => k118 _) fun _ => rd_i fun _ => br_i (fun _ => k118 _) fun _ => j_item vT (by decide) fun b _ _ => sw_e fun w e => rd_i fun _ => ?_
    have wr : RG [36] [] v w := by rw [e]; exact (RG.rf vT).I _ (by decide) (by decide) (by decide)
    have wW : WK w := vW.k wr (by decide) (by decide) (by decide) (by decide)
    clear e
    exact j_indAsked wW.1 wW.2.1.1.1 fun a a0 a1 => k188 _ a w a0 a1 (vr.tr (wr.w (by decide) (by decide))) wW (wr.2.1.prx hp)
  exact j_lengthOf vT (br_i (fun _ => j_left vT (k65 _ _)) fun _ => k65 _ _) fun n _ _ => br_i (fun _ => j_left vT (k65 _ _)) fun _ => k65 _ _
