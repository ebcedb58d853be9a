/-! the class: conclusions of a told proof -/
/-- the names and the parameters of the functions -/
def NB (u : iST) : Prop := ∀ d, 0 ≤ d → d < u.1 0 → u.2.1 0 d < u.1 29 ∧ u.2.1 1 d < u.1 29
theorem NB.rg {u v : iST} {S R : List Nat} (h : NB u) (g : RG S R u v) (h0 : 0 ∉ S) (r0 : 0 ∉ R) (r1 : 1 ∉ R) : NB v := fun d d0 d1 => by
  rw [g.s 0 h0] at d1
  rw [g.a 0 r0, g.a 1 r1]
  have := h d d0 d1
  have := g.2.1.1
  omega
theorem j_definedCall {u0 u : iST} {f : Int} {G : Int → Prop} {Q : Int → iST → Prop} (h : PH G u0 u) (hB : NB u0) (hf : f = -1 ∨ (0 ≤ f ∧ f < u.1 0)) (hq : ∀ t v, PH G u0 v → RM u v → t < v.1 29 → Q t v) : v_3_definedCall f Q u := by
  have h44 := h.T.1.1
  unfold v_3_definedCall
  refine br_i (fun hne => ?_) fun _ => hq (-1) u h (RG.rf h.T) (by omega)
  obtain ⟨f0, f1⟩ := hf.resolve_left hne
  have q := h.W.fb f0 f1
  have nb := (hB.rg h.1 (by decide) (by decide) (by decide)) f f0 f1
  exact bd_i f0 q.2.2.2 (rd_i fun _ => bd_i f0 q.2.2.2 (rd_i fun _ => j_pair h.T nb.1 nb.2 fun t v hv _ t1 _ => hq t v (h.rm hv) hv t1))
theorem j_concludeAlone {u0 u : iST} {c p : Int} {G : Int → Prop} {Q : iST → Prop} (h : PH G u0 u) (hB : NB u0) (c0 : 0 ≤ c) (c1 : c < 408) (hq : ∀ v, PH G u0 v → Q v) : v_3_concludeAlone c p Q u := by
  unfold v_3_concludeAlone
  refine j_left h.T (j_termAt h (by decide) fun x v vh vr hx => ?_)
  generalize eL u p = n
  have k39 : ∀ w y, PH G u0 w → x < w.1 29 → y < w.1 29 → v_3_concludeAlone_39 Q c p n x y w := by
    intro w y wh hx hy
    have wT := wh.T
    have w44 := wT.1.1
    have b0 := wh.W.2.1.1.1
    have b1 := wh.W.2.1.1.2.1
    have pair : v_3_concludePair c n x y (fun u => Q u) w := j_concludePair wh c0 c1 hx hy hq
    have k294 : ∀ z s t, PH G u0 z → w.1 29 ≤ z.1 29 → s < z.1 29 → t < z.1 29 → v_3_concludeAlone_294 Q c n x y s c t z := by
      intro z s t zh z29 hs ht
      have z44 := zh.T.1.1
      unfold v_3_concludeAlone_294
      refine q_join zh c0 c1 ht fun a ah a29 => ?_
      have a44 := ah.T.1.1
      refine j_call ah.T (by omega) (by omega) (by omega) (by omega) fun r b hb hr => ?_
      have b29 := hb.2.1.1
      unfold v_3_concludeAlone_326
      exact br_i (fun _ => j_joinEqual (ah.rm hb) c0 c1 hr (by omega) fun d dh _ => hq d dh) fun _ => j_joinEqual (ah.rm hb) c0 c1 hr (by omega) fun d dh _ => hq d dh
    have third : v_3_termAt p 3 (fun v19 u => br (n ≠ 34) (v_3_concludeAlone_294 Q c n x y v19 c x u) (v_10_negated x (fun v23 u => v_3_concludeAlone_294 Q c n x y v19 c v23 u) u)) w := j_termAt wh (by decide) fun s z zh zr hs => br_i (fun _ => k294 z s x zh zr.2.1.1 hs (zr.up hx)) fun _ => j_negated zh.T (zr.up hx) fun t a ha ht => k294 a s t (zh.rm ha) (Int.le_trans zr.2.1.1 ha.2.1.1) (ha.up hs) ht
    have k206 : ∀ z s t, PH G u0 z → s < z.1 29 → t < z.1 29 → v_3_concludeAlone_206 Q c s t z := by
      intro z s t zh hs ht
      unfold v_3_concludeAlone_206
      exact j_joinEqual zh c0 c1 hs ht fun d dh _ => hq d dh
    have k255 : ∀ t, t < w.1 29 → v_3_concludeAlone_255 Q c t w := by
      intro t ht
      unfold v_3_concludeAlone_255
      exact q_join wh c0 c1 ht fun d dh _ => hq d dh
    unfold v_3_concludeAlone_39
    refine br_i (fun _ => q_join wh c0 c1 hx fun a ah a29 => j_negated ah.T (by omega) fun t b hb ht => q_join (ah.rm hb) c0 c1 ht fun d dh _ => hq d dh) fun _ => br_i (fun _ => j_joinEqual wh c0 c1 hx hx fun d dh _ => hq d dh) fun _ => br_i (fun _ => j_valueAt wh fun t z zh zr ht => j_constantOf zh.T ht fun s a ha hs => j_joinEqual (zh.rm ha) c0 c1 (ha.up (zr.up hx)) hs fun d dh _ => hq d dh) fun _ => br_i (fun _ => pair) fun _ => br_i (fun _ => pair) fun _ => br_i (fun _ => pair) fun _ => br_i (fun _ => third) fun _ => br_i (fun _ => third) fun _ => br_i (fun _ => j_item wT (by decide) fun a _ _ => j_functionOf b0.1 b0.2 fun r hr => ?_) fun _ => br_i (fun _ => j_item wT (by decide) fun a _ _ => j_theoremOf b1.1 b1.2 fun r hr => ?_) fun _ => pair
    · have hr2 : r = -1 ∨ (0 ≤ r ∧ r < w.1 0) := hr.imp id (fun z => ⟨z.1, z.2.1⟩)
      refine j_definedCall wh hB hr2 fun t z zh zr ht => br_i (fun hne => ?_) fun _ => k206 z t (-1) zh ht (by have := zh.T.1.1; omega)
      obtain ⟨r0, r1⟩ := hr2.resolve_left hne
      have q := zh.W.fb r0 (by rw [zr.s 0 (by decide)]; exact r1)
      exact bd_i r0 q.2.2.2 (rd_i fun _ => k206 z t _ zh ht q.1)
    · refine br_i (fun hne => ?_) fun _ => k255 (-1) (by omega)
      obtain ⟨r0, r1, _⟩ := hr.resolve_left hne
      exact bd_i r0 (by omega) (rd_i fun _ => k255 _ (wh.W.2.2.2.2.1 r r0 r1).1)
  have v44 := vh.T.1.1
  have k38 : v_3_concludeAlone_38 Q c p n x v := by
    unfold v_3_concludeAlone_38
    exact k39 v (-1) vh hx (by omega)
  exact br_i (fun _ => k38) fun _ => br_i (fun _ => k38) fun _ => j_termAt vh (by decide) fun y w wh wr hy => k39 w y wh (wr.up hx) hy
theorem j_joinAllBut {u0 u : iST} {c d x : Int} {G : Int → Prop} {Q : iST → Prop} (h : PH G u0 u) (c0 : 0 ≤ c) (c1 : c < 408) (d0 : 0 ≤ d) (d1 : d < 408) (hd : G d) (hq : ∀ v, PH G u0 v → Q v) : v_3_joinAllBut c d x Q u := by
  unfold v_3_joinAllBut v_3_joinAllBut_3
  refine lf4 (B := fun R x1 x2 x3 x4 u => v_3_joinAllBut_3b R Q x1 x2 x3 x4 u) (fun x1 x2 x3 x4 v => c = x1 ∧ d = x2 ∧ 0 ≤ x4 ∧ PH G u0 v) (fun _ _ _ x4 _ => (30 - x4).toNat) ?_ ⟨rfl, rfl, Int.le_refl _, h⟩
  intro x1 x2 x3 x4 v hI R ih
  obtain ⟨rfl, rfl, h4, vh⟩ := hI
  have D := vh.C d d0 d1
  unfold v_3_joinAllBut_3b
  exact rd_i fun _ => br_i (fun _ => hq v vh) fun hlt => bd_i h4 (by omega) (rd_i fun _ => br_i (fun _ => ov_i (by omega) (by omega) (ih _ _ _ _ _ ⟨rfl, rfl, by omega, vh⟩ (by omega))) fun _ => bd_i h4 (by omega) (rd_i fun _ => q_join vh c0 c1 (D.2 hd x4 h4 (by omega)) fun w wh _ => ov_i (by omega) (by omega) (ih _ _ _ _ _ ⟨rfl, rfl, by omega, wh⟩ (by omega))))
theorem j_joinRebuilt {u0 u : iST} {c d y : Int} {G : Int → Prop} {Q : iST → Prop} (h : PH G u0 u) (c0 : 0 ≤ c) (c1 : c < 408) (d0 : 0 ≤ d) (d1 : d < 408) (hd : G d) (hy : y ≠ 0) (hf : y = 1 → BV u) (h41 : y = 2 → u.1 41 < u.1 29) (hq : ∀ v, PH G u0 v → Q v) : v_3_joinRebuilt c d y Q u := by
  unfold v_3_joinRebuilt v_3_joinRebuilt_3
  refine lf4 (B := fun R x1 x2 x3 x4 u => v_3_joinRebuilt_3b R Q x1 x2 x3 x4 u) (fun x1 x2 x3 x4 v => c = x1 ∧ d = x2 ∧ y = x3 ∧ 0 ≤ x4 ∧ PH G u0 v ∧ (y = 1 → BV v) ∧ (y = 2 → v.1 41 < v.1 29)) (fun _ _ _ x4 _ => (30 - x4).toNat) ?_ ⟨rfl, rfl, rfl, Int.le_refl _, h, hf, h41⟩
  intro x1 x2 x3 x4 v hI R ih
  obtain ⟨rfl, rfl, rfl, h4, vh, vf, v41⟩ := hI
  have D := vh.C d d0 d1
  have rd := vh.W.rd
  unfold v_3_joinRebuilt_3b
  refine rd_i fun _ => br_i (fun _ => hq v vh) fun hlt => bd_i h4 (by omega) (rd_i fun _ => j_rebuilt vh.T rd.1 (D.2 hd x4 h4 (by omega)) (fun z => absurd z hy) rd.2.1 rd.2.2 vf vh.W.2.2.2.2.2.2 v41 fun t w hw ht _ => j_join hw.1 (vh.rb hw).C c0 c1 ht fun z hz zC _ => ov_i (by omega) (by omega) (ih _ _ _ _ _ ⟨rfl, rfl, rfl, by omega, (vh.rb hw).jn hz zC, fun q => ?_, fun q => ?_⟩ (by omega)))
  · exact ((vf q).rg hw (by decide) (by decide)).rg hz (by decide) (by decide)
  · rw [hz.s 41 (by decide), hw.s 41 (by decide)]
    exact hz.up (hw.up (v41 q))
theorem j_concludeWeak {u0 u : iST} {c d x : Int} {G : Int → Prop} {Q : iST → Prop} (h : PH G u0 u) (c0 : 0 ≤ c) (c1 : c < 408) (d0 : 0 ≤ d) (d1 : d < 408) (hd : G d) (hq : ∀ v, PH G u0 v → Q v) : v_3_concludeWeak c d x Q u := by
  unfold v_3_concludeWeak
  refine j_copy h.T h.C c0 c1 d0 d1 hd fun a ha aC _ _ => ?_
  have ah : PH G u0 a := h.cl ha (aC.less (fun c hc => Or.inl hc))
  unfold v_3_concludeWeak_8
  refine lf2 (B := fun R x1 x4 u => v_3_concludeWeak_8b R Q x1 x4 u) (fun x1 x4 v => c = x1 ∧ PH G u0 v) (fun _ x4 _ => x4.toNat) ?_ ⟨rfl, ah⟩
  intro x1 x4 v hI R ih
  obtain ⟨rfl, vh⟩ := hI
  unfold v_3_concludeWeak_8b
  refine j_isPair vh.T (fun hp => br_n (by decide) (j_left vh.T (j_read vh.T vh.W.rd (eL_r vh.T _).1 (eL_r vh.T _).2.1 vh.W.2.2.2.2.2.2 fun t w hw ht _ _ => j_join hw.1 (vh.rb hw).C c0 c1 ht fun z hz zC _ => j_right hz.1 (ih _ _ _ ⟨rfl, (vh.rb hw).jn hz zC⟩ ?_)))) fun _ => br_y rfl (hq v vh)
  have q := eR_r hz.1 x4
  have := q.2.2 ((hw.2.1.tr hz.2.1).prx hp)
  omega
theorem j_isCut {u0 u : iST} {c d e x : Int} {G : Int → Prop} {Q : Int → iST → Prop} (h : PH G u0 u) (c0 : 0 ≤ c) (c1 : c < 408) (d0 : 0 ≤ d) (d1 : d < 408) (hd : G d) (e0 : 0 ≤ e) (e1 : e < 408) (he : G e) (hq : ∀ b v, bz b → PH G u0 v → Q b v) : v_3_isCut c d e x Q u := by
  have C := (h.C e e0 e1).1
  have no : zt 0 (Q 0 u) := zt_0 (hq 0 u (Or.inl rfl) h)
  unfold v_3_isCut v_3_isCut_6
  refine lf6 (B := fun R x1 x2 x3 x4 x5 x6 u => v_3_isCut_6b R Q x1 x2 x3 x4 x5 x6 u) (fun x1 x2 x3 x4 x5 x6 v => c = x1 ∧ d = x2 ∧ e = x3 ∧ x = x4 ∧ 0 ≤ x6 ∧ u = v) (fun _ _ _ _ _ x6 _ => (30 - x6).toNat) ?_ ⟨rfl, rfl, rfl, rfl, Int.le_refl _, rfl⟩
  intro x1 x2 x3 x4 x5 x6 v hI R ih
  obtain ⟨rfl, rfl, rfl, rfl, h6, rfl⟩ := hI
  unfold v_3_isCut_6b
  exact rd_i fun _ => br_i (fun _ => j_placeOf h.C d0 d1 fun r _ _ _ => br_i (fun _ => no) fun _ => br_i (fun _ => j_joinAllBut h c0 c1 d0 d1 hd fun w wh => j_joinAllBut wh c0 c1 e0 e1 he fun z zh => zt_1 (hq 1 z (Or.inr rfl) zh)) fun _ => no) fun hlt => bd_i h6 (by omega) (rd_i fun _ => j_isNegation h.T fun b _ => br_i (fun _ => ov_i (by omega) (by omega) (ih _ _ _ _ _ _ _ ⟨rfl, rfl, rfl, rfl, by omega, rfl⟩ (by omega))) fun _ => bd_i h6 (by omega) (rd_i fun _ => ov_i (by omega) (by omega) (ih _ _ _ _ _ _ _ ⟨rfl, rfl, rfl, rfl, by omega, rfl⟩ (by omega))))
theorem j_isWithin {u : iST} {c d : Int} {G : Int → Prop} {Q : Int → iST → Prop} (hC : CV G u) (c0 : 0 ≤ c) (c1 : c < 408) (d0 : 0 ≤ d) (d1 : d < 408) (hq : ∀ b, bz b → Q b u) : v_3_isWithin c d Q u := by
  have C := (hC c c0 c1).1
  unfold v_3_isWithin v_3_isWithin_2
  refine lf3 (B := fun R x1 x2 x3 u => v_3_isWithin_2b R Q x1 x2 x3 u) (fun x1 x2 x3 v => c = x1 ∧ d = x2 ∧ 0 ≤ x3 ∧ u = v) (fun _ _ x3 _ => (30 - x3).toNat) ?_ ⟨rfl, rfl, Int.le_refl _, rfl⟩
  intro x1 x2 x3 v hI R ih
  obtain ⟨rfl, rfl, h3, rfl⟩ := hI
  unfold v_3_isWithin_2b
  exact rd_i fun _ => br_i (fun _ => zt_1 (hq 1 (Or.inr rfl))) fun hlt => bd_i h3 (by omega) (rd_i fun _ => j_placeOf hC d0 d1 fun r _ _ _ => br_i (fun _ => ov_i (by omega) (by omega) (ih _ _ _ _ ⟨rfl, rfl, by omega, rfl⟩ (by omega))) fun _ => zt_0 (hq 0 (Or.inl rfl)))
/-- what a rule needs of its parts -/
def needN (n : Int) : Int := if n = 38 ∨ n = 40 ∨ n = 41 then 1 else if n = 39 ∨ n = 42 then 2 else 0
theorem j_concludeOfParts {u0 u : iST} {c p b : Int} {G : Int → Prop} {Q : Int → iST → Prop} (h : PH G u0 u) (c0 : 0 ≤ c) (c1 : c < 408) (b0 : 0 ≤ b) (b1 : b < 255) (hl : 38 ≤ eL u p ∧ eL u p ≤ 42) (hG : ∀ i, b ≤ i → i < b + needN (eL u p) → G (u0.2.1 57 i)) (hq : ∀ r v, bz r → PH G u0 v → Q r v) : v_3_concludeOfParts c p b Q u := by
  have hT := h.T
  have r57 : ∀ v, PH G u0 v → v.2.1 57 = u0.2.1 57 := fun v vh => vh.1.a 57 (by decide)
  unfold v_3_concludeOfParts
  refine j_left hT ?_
  have G0 : G (u0.2.1 57 b) := hG b (Int.le_refl _) (by
    have : 1 ≤ needN (eL u p) := by
      unfold needN
      split
      · decide
      · split
        · decide
        · omega
    omega)
  refine br_i (fun _ => bd_i b0 (by omega) (rc_i fun hr => j_item hT (by decide) fun a _ _ => ?_)) fun _ => br_i (fun h39 => bd_i b0 (by omega) (rc_i fun hr => ov_i (by omega) (by omega) (bd_i (by omega) (by omega) (rc_i fun hr2 => ?_)))) fun _ => br_i (fun _ => j_right hT (j_right hT (j_bindPairs hT h.W.rd (eR_r hT _).2.1 fun b2 v hb2 hv vV => bd_i b0 (by omega) (rc_i fun hr => ?_)))) fun h40 => bd_i b0 (by omega) (rc_i fun hr => rd_i fun _ => ?_)
  · rw [r57 u h] at hr ⊢
    exact j_concludeWeak h c0 c1 hr.1 hr.2 G0 fun v vh => zt_1 (hq 1 v (Or.inr rfl) vh)
  · rw [r57 u h] at hr hr2 ⊢
    have G1 : G (u0.2.1 57 (b + 1)) := hG (b + 1) (by omega) (by rw [h39]; show b + 1 < b + 2; omega)
    exact j_termAt h (by decide) fun t v vh _ _ => j_isCut vh c0 c1 hr.1 hr.2 G0 hr2.1 hr2.2 G1 fun r w hr3 wh => ⟨hr3, hq r w hr3 wh⟩
  · have vh := h.tm hv vV
    rw [r57 v vh] at hr ⊢
    exact j_joinRebuilt vh c0 c1 hr.1 hr.2 G0 (by decide) (fun _ => vV) (fun z => by omega) fun w wh => zt_1 (hq 1 w (Or.inr rfl) wh)
  · rw [r57 u h] at hr ⊢
    have D := h.C _ hr.1 hr.2
    have h44 := hT.1.1
    have k254 : ∀ v y, PH G u0 v → v_3_concludeOfParts_254 Q c (u0.2.1 57 b) y v := by
      intro v y vh
      unfold v_3_concludeOfParts_254
      exact j_joinAllBut vh c0 c1 hr.1 hr.2 G0 fun w wh => zt_1 (hq 1 w (Or.inr rfl) wh)
    have k148 : ∀ y, v_3_concludeOfParts_148 Q c p b (u0.2.1 57 b) y u := by
      intro y
      unfold v_3_concludeOfParts_148
      refine j_isCallOf hT (fun _ _ => br_y (by decide) (j_left hT (br_i (fun h41 => j_item hT (by decide) fun a _ a1 => sw_e fun v e => ?_) fun _ => j_item hT (by decide) fun a _ a1 => j_item hT (by decide) fun a2 _ a3 => j_joinEqual h c0 c1 a1 a3 fun v vh _ => k254 v y vh))) fun _ => br_n (fun z => z rfl) (zt_0 (hq 0 u (Or.inl rfl) h))
      have vr : RG [40] [] u v := by rw [e]; exact (RG.rf hT).I _ (by decide) (by decide) (by decide)
      clear e
      have vh : PH G u0 v := h.go vr (by decide) (by decide) (vr.s 13 (by decide)) (h.C.rg vr (by decide) (by decide)) (by rw [vr.s 33 (by decide)]; exact h.2.2.2.2.1) (by rw [vr.s 39 (by decide)]; exact h.W.2.2.2.2.2.2)
      refine j_item vh.T (by decide) fun d _ d1 => sw_e fun w e => ov_i (by omega) (by omega) (bd_i (by omega) (by omega) (rc_i fun hr2 => ?_))
      have wr : RG [41] [] v w := by rw [e]; exact (RG.rf vh.T).I _ (by decide) (by decide) (by decide)
      have w41 : w.1 41 = d := by rw [e]; rfl
      clear e
      have wh : PH G u0 w := vh.go wr (by decide) (by decide) (wr.s 13 (by decide)) (vh.C.rg wr (by decide) (by decide)) (by rw [wr.s 33 (by decide)]; exact vh.2.2.2.2.1) (by rw [wr.s 39 (by decide)]; exact vh.W.2.2.2.2.2.2)
      rw [r57 w wh] at hr2 ⊢
      have e42 : eL u p = 42 := by omega
      have G1 : G (u0.2.1 57 (b + 1)) := hG (b + 1) (by omega) (by rw [e42]; show b + 1 < b + 2; omega)
      exact j_joinRebuilt wh c0 c1 hr2.1 hr2.2 G1 (by decide) (fun z => by omega) (fun _ => by rw [w41, wr.s 29 (by decide)]; exact d1) fun z zh => k254 z y zh
    exact br_i (fun _ => k148 _) fun _ => bd_i (by decide) (by decide) (rd_i fun _ => k148 _)
theorem j_isInduced {u0 u : iST} {c p b : Int} {G : Int → Prop} {Q : Int → iST → Prop} (h : PH G u0 u) (c0 : 0 ≤ c) (c1 : c < 408) (b0 : 0 ≤ b) (h11 : u0.1 11 ≤ 256) (hq : ∀ r v, bz r → PH G u0 v → Q r v) : v_3_isInduced c p b Q u := by
  unfold v_3_isInduced
  refine j_termAt h (by decide) fun x v vh vr hx => ?_
  have b0' := vh.W.2.1.1.1
  refine j_item vh.T (by decide) fun y _ y1 => j_left vh.T (j_functionOf b0'.1 b0'.2 fun f hf => br_i (fun hne => ?_) fun _ => zt_0 (hq 0 v (Or.inl rfl) vh))
  obtain ⟨f0, f1, _⟩ := hf.resolve_left hne
  have q := vh.W.fb f0 f1
  refine bd_i f0 q.2.2.2 (rd_i fun _ => j_goToPath vh.T vh.2.2.2.2.1 q.1 fun b2 w hb2 hw w33 w34 => ?_)
  unfold v_3_isInduced_67
  refine lf6 (B := fun R x1 x4 x5 x6 x7 x8 u => v_3_isInduced_67b R Q x1 x4 x5 x6 x7 x8 u) (fun x1 x4 x5 x6 x7 x8 z => c = x1 ∧ x = x4 ∧ y = x5 ∧ f = x6 ∧ 0 ≤ x8 ∧ PH G u0 z ∧ (x7 ≠ 0 → z.1 34 < z.1 29) ∧ x < z.1 29) (fun _ _ _ _ _ x8 _ => (256 - x8).toNat) ?_ ⟨rfl, rfl, rfl, rfl, b0, vh.pt hw w33, w34, hw.up hx⟩
  intro x1 x4 x5 x6 x7 x8 z hI R ih
  obtain ⟨rfl, rfl, rfl, rfl, h8, zh, z34, zx⟩ := hI
  have z11 : z.1 11 = u0.1 11 := zh.1.s 11 (by decide)
  have k211 : v_3_isInduced_211 Q c x z := by
    unfold v_3_isInduced_211
    exact q_join zh c0 c1 zx fun a ah _ => zt_1 (hq 1 a (Or.inr rfl) ah)
  unfold v_3_isInduced_67b
  refine rd_i fun _ => br_i (fun _ => k211) fun hlt => br_i (fun _ => k211) fun h7 => rd_i fun _ => br_i (fun _ => k211) fun _ => j_clear zh.T zh.C fun a ha aC _ => ?_
  have ah : PH G u0 a := zh.cl ha (aC.less (fun c hc => Or.inl hc))
  have f1u : f < a.1 0 := by
    rw [ha.s 0 (by decide), zh.1.s 0 (by decide), ← vh.1.s 0 (by decide)]; exact f1
  refine bd_i f0 q.2.2.2 (rd_i fun _ => j_right ah.T (j_addRulers ah.toSH (by decide) (by decide) fun d dh d33 d34 d35 d13 d29 => ?_))
  have dP := ah.sh dh d13
  have a34 : a.1 34 = z.1 34 := ha.s 34 (by decide)
  have a29 := ha.2.1.1
  have z34' := z34 h7
  refine j_right dP.T (j_addIndHyp dP.toSH (by decide) (by decide) f0 ?_ (by omega) (by omega) fun e eh e33 e34 e13 e29 => ?_)
  · have := dh.1.s 0 (by decide)
    omega
  have eP := dP.sh eh e13
  refine q_join eP (by decide) (by decide) (by omega) fun g gh g29 => rd_i fun _ => ?_
  have g44 := gh.T.1.1
  have k195 : v_3_isInduced_195 R Q c x y f x8 g := by
    unfold v_3_isInduced_195
    exact j_goToPath gh.T gh.2.2.2.2.1 (by omega) fun b3 i hb3 hi i33 i34 => ov_i (by omega) (by omega) (ih _ _ _ _ _ _ _ ⟨rfl, rfl, rfl, rfl, by omega, gh.pt hi i33, i34, by have := hi.2.1.1; omega⟩ (by omega))
  exact br_i (fun _ => k195) fun _ => bd_i h8 (by omega) (rc_i fun hr => j_isWithin gh.C hr.1 hr.2 (by decide) (by decide) fun b3 _ => br_i (fun _ => k195) fun _ => zt_0 (hq 0 g (Or.inl rfl) gh))
