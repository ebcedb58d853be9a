def fRu (k : Nat) : Bool := (decide (46 ≤ k) && decide (k ≤ 53)) || (decide (75 ≤ k) && decide (k ≤ 78)) || (decide (105 ≤ k) && decide (k ≤ 107)) || decide (k = 112) || decide (k = 113)
theorem fRu_t : ∀ k, k ≤ 11 → fRu k = false := fun k hk => by simp [fRu]; omega
/-- a state in which rule k is made -/
def RS (v z : iST) (k : Int) : Prop := Fx fRu v z ∧ z.2.2 = v.2.2 ∧ (∀ j, j ≠ k → z.2.1 46 j = v.2.1 46 j ∧ z.2.1 47 j = v.2.1 47 j ∧ z.2.1 48 j = v.2.1 48 j) ∧ (∀ i, (i < 120 * k ∨ 120 * k + 120 ≤ i) → z.2.1 49 i = v.2.1 49 i) ∧ 0 ≤ z.2.1 48 k ∧ z.2.1 48 k ≤ 120 ∧ ∀ i, 0 ≤ i → i < z.2.1 48 k → TJ v (z.2.1 49 (120 * k + i))
theorem RS.step {v z y : iST} {k : Int} (h : RS v z k) (hF : Fx fRu z y) (hL : y.2.2 = z.2.2) (h46 : ∀ j, j ≠ k → y.2.1 46 j = z.2.1 46 j) (h47 : ∀ j, j ≠ k → y.2.1 47 j = z.2.1 47 j) (h48 : y.2.1 48 = z.2.1 48) (h49 : y.2.1 49 = z.2.1 49) : RS v y k := by
  obtain ⟨a1, a2, a3, a4, a5, a6, a7⟩ := h
  unfold RS
  rw [h48, h49]
  exact ⟨a1.tr hF, hL.trans a2, fun j hj => ⟨(h46 j hj).trans (a3 j hj).1, (h47 j hj).trans (a3 j hj).2.1, (a3 j hj).2.2⟩, a4, a5, a6, a7⟩
theorem BIN_sz {u : iST} (hT : TI u) {t : Int} (ht : TJ u t) (h4 : 4 ≤ u.2.1 0 t) (h9 : u.2.1 0 t ≤ 9) : sz u t = 1 + sz u (el u t 1) + sz u (el u t 2) := by
  obtain ⟨n, a, b, c, d, e⟩ := ht.1.call hT ⟨by omega, by omega⟩ ht.2
  have : n = 2 := b.fun (Ar_base (by omega) (by omega) (Or.inr (Or.inl ⟨h4, h9, rfl⟩)))
  subst this
  have e' : sz u t = 1 + (sz u (el u t 1) + (sz u (el u t 2) + 0)) := e
  omega
def RP (v w : iST) (k : Int) : Prop := RS v w k ∧ (w.2.1 46 k = -1 ∨ RuleOk w k)
theorem TJ.eqt {u v : iST} (hT : TI u) (hs : ∀ k, k ≤ 11 → v.1 k = u.1 k ∧ v.2.1 k = u.2.1 k) (hL : v.2.2 = u.2.2) (hF : SameF u v) {x : Int} (h : TJ u x) : TJ v x := h.ext hT (ExtT.same hs hL hF)
theorem g_ruleOf {v : iST} {k fo : Int} {Q : iST → Prop} (hT : TI v) (k0 : 0 ≤ k) (k1 : k < 60) (hf : TJ v fo) (hq : ∀ w, RP v w k → Q w) : w_ruleOf k fo Q v := by
  have h8 := hT.2.1
  have tab : ∀ z, RS v z k → (∀ k, k ≤ 11 → z.1 k = v.1 k ∧ z.2.1 k = v.2.1 k) ∧ TI z ∧ SameF v z := fun z hz => by
    have t : ∀ k, k ≤ 11 → z.1 k = v.1 k ∧ z.2.1 k = v.2.1 k := fun k hk => hz.1 k (fRu_t k hk)
    exact ⟨t, TI_eq hT t hz.2.1, SameF.of hz.1 rfl rfl rfl rfl rfl⟩
  have k295 : ∀ (x4 x5 l x8 y2 : Int) (z : iST), TJ v l → bz y2 → RP v z k → w_ruleOf_295 Q k x4 x5 l x8 k y2 z := by
    intro x4 x5 l x8 y2 z hl hy hz
    have lr := hl.1.r
    have wr : ∀ (g : Nat) (a : Int) (y : iST), (g = 50 ∨ g = 51) → RP v y k → RP v (iA y g k a) k := by
      intro g a y hg hy
      have hg' : g ≠ 46 ∧ g ≠ 47 ∧ g ≠ 48 ∧ g ≠ 49 ∧ g ≠ 0 := by omega
      have hF : Fx fRu y (iA y g k a) := Fx_A (by rcases hg with rfl | rfl <;> rfl)
      have hS := hy.1.step hF rfl (fun j _ => by rw [iA_other (by omega)]) (fun j _ => by rw [iA_other (by omega)]) (iA_other (by omega)) (iA_other (by omega))
      refine ⟨hS, ?_⟩
      rw [iA_other (Ne.symm hg'.1)]
      refine hy.2.imp id (fun q => ?_)
      obtain ⟨b1, b2, b3, b4, b5, b6⟩ := q
      have hE : ExtT y (iA y g k a) := ExtT.same (fun k' hk' => hF k' (fRu_t k' hk')) rfl (SameF.of hF rfl rfl rfl rfl rfl)
      have yT := (tab y hy.1).2.1
      unfold RuleOk
      rw [iA_other (Ne.symm hg'.1), iA_other (Ne.symm hg'.2.1), iA_other (Ne.symm hg'.2.2.1), iA_other (Ne.symm hg'.2.2.2.1), iA_other (Ne.symm hg'.2.2.2.2)]
      exact ⟨b1.ext yT hE, b2, b3.ext yT hE, b4, b5, fun i i0 i1 => (b6 i i0 i1).ext yT hE⟩
    unfold w_ruleOf_295
    have z1 := wr 50 y2 z (Or.inl rfl) hz
    have z0 : ∀ a, Q (iA (iA z 50 k y2) 51 k a) := fun a => hq _ (wr 51 a _ (Or.inr rfl) z1)
    have e0 : zt 0 (bd k 60 (sw (iA (iA z 50 k y2) 51 k 0) (fun u => Q u))) := zt_0 (bd_i k0 k1 (sw_i (z0 0)))
    refine (show zt y2 _ from ⟨hy, bd_i k0 k1 (sw_i (br_i (fun _ => e0) fun _ => br_i (fun _ => e0) fun _ => br_i (fun _ => e0) fun _ => s_isBoolean lr.1 (by omega) fun b _ => br_i (fun _ => e0) fun _ => zt_1 (bd_i k0 k1 (sw_i (z0 1)))))⟩)
  have k243 : ∀ (x4 x5 l r x8 y2 : Int) (z : iST), TJ v l → TJ v r → bz x8 → RS v z k → (y2 = -1 ∨ (y2 = l ∧ 0 ≤ v.2.1 0 l ∧ v.2.1 0 l ≠ 2)) → w_ruleOf_243 Q k x4 x5 l r x8 k y2 z := by
    intro x4 x5 l r x8 y2 z hl hr h8' hz hy
    unfold w_ruleOf_243
    refine bd_i k0 k1 (sw_i (bd_i k0 k1 (sw_i (show zt x8 _ from ⟨h8', bd_i k0 k1 (sw_i (zt_0 (bd_i k0 k1 (sw_i ?_))))⟩))))
    generalize hy1 : iA (iA (iA (iA z 46 k y2) 47 k r) 52 k x8) 53 k 0 = y
    have y46 : ∀ j, y.2.1 46 j = if j = k then y2 else z.2.1 46 j := fun j => by rw [← hy1]; rfl
    have y47 : ∀ j, y.2.1 47 j = if j = k then r else z.2.1 47 j := fun j => by rw [← hy1]; rfl
    have yg : ∀ g, g ≠ 46 → g ≠ 47 → g ≠ 52 → g ≠ 53 → y.2.1 g = z.2.1 g := fun g g1 g2 g3 g4 => by rw [← hy1]; exact (iA_other g4).trans ((iA_other g3).trans ((iA_other g2).trans (iA_other g1)))
    have yF : Fx fRu z y := by rw [← hy1]; exact (((Fx_A (k := 46) rfl).tr (Fx_A (k := 47) rfl)).tr (Fx_A (k := 52) rfl)).tr (Fx_A (k := 53) rfl)
    have yL : y.2.2 = z.2.2 := by rw [← hy1]; rfl
    clear hy1
    have yS : RS v y k := hz.step yF yL (fun j hj => by rw [y46, if_neg hj]) (fun j hj => by rw [y47, if_neg hj]) (yg 48 (by decide) (by decide) (by decide) (by decide)) (yg 49 (by decide) (by decide) (by decide) (by decide))
    have rp : ∀ w, RS v w k → w.2.1 46 k = y2 → w.2.1 47 k = r → RP v w k := fun w hw e1 e2 => by
      refine ⟨hw, ?_⟩
      rcases hy with hy | ⟨hy, c0, c2⟩
      · exact Or.inl (e1.trans hy)
      · right
        obtain ⟨t, wT, wS⟩ := tab w hw
        have hE : ExtT v w := ExtT.same t hw.2.1 wS
        unfold RuleOk
        rw [e1, e2, hy, (t 0 (by decide)).2]
        exact ⟨hl.ext hT hE, ⟨c0, c2⟩, hr.ext hT hE, hw.2.2.2.2.1, hw.2.2.2.2.2.1, fun i i0 i1 => (hw.2.2.2.2.2.2 i i0 i1).ext hT hE⟩
    have k294 : ∀ w, RS v w k → w.2.1 46 k = y2 → w.2.1 47 k = r → w_ruleOf_294 Q k x4 x5 l x8 k w := fun w hw e1 e2 => by
      unfold w_ruleOf_294
      exact k295 x4 x5 l x8 0 w hl (Or.inl rfl) (rp w hw e1 e2)
    refine br_i (fun _ => k294 y yS (by rw [y46, if_pos rfl]) (by rw [y47, if_pos rfl])) fun _ => ?_
    obtain ⟨t, yT, ySf⟩ := tab y yS
    refine g_matches yT (hl.eqt hT t yS.2.1 ySf) (hr.eqt hT t yS.2.1 ySf) (Int.le_refl _) (by decide) fun b w _ hm => ?_
    have wF : Fx fRu y w := hm.1.mono (fun g hg => by simp [fRu] at hg; simp [fX]; omega)
    have wS : RS v w k := yS.step wF hm.2.1 (fun j _ => by rw [fx_a hm.1 46 rfl]) (fun j _ => by rw [fx_a hm.1 47 rfl]) (fx_a hm.1 48 rfl) (fx_a hm.1 49 rfl)
    have e1 : w.2.1 46 k = y2 := by rw [fx_a hm.1 46 rfl, y46, if_pos rfl]
    have e2 : w.2.1 47 k = r := by rw [fx_a hm.1 47 rfl, y47, if_pos rfl]
    exact br_i (fun _ => k294 w wS e1 e2) fun _ => k295 x4 x5 l x8 1 w hl (Or.inr rfl) (rp w wS e1 e2)
  have stepV : ∀ (f : Nat → Bool) (z y : iST), (∀ g, fRu g = false → f g = false) → f 46 = false → f 47 = false → f 48 = false → f 49 = false → RS v z k → Fx f z y → y.2.2 = z.2.2 → RS v y k := fun f z y hf0 h6 h7 h8' h9 hz hF hL => hz.step (hF.mono hf0) hL (fun j _ => by rw [fx_a hF 46 h6]) (fun j _ => by rw [fx_a hF 47 h7]) (fx_a hF 48 h8') (fx_a hF 49 h9)
  have fV_Ru : ∀ g, fRu g = false → fV g = false := fun g hg => by simp [fRu] at hg; simp [fV]; omega
  have k172 : ∀ (x4 x5 l r y0 : Int) (z : iST), TJ v l → TJ v r → bz y0 → (y0 ≠ 0 → 0 ≤ v.2.1 0 l ∧ v.2.1 0 l ≠ 2) → RS v z k → w_ruleOf_172 Q k x4 x5 l r y0 z := by
    intro x4 x5 l r y0 z hl hr hb hc hz
    have ls := hl.2
    unfold w_ruleOf_172 w_ruleOf_177
    refine lf7 (B := fun R x1 x4 x5 x6 x7 x8 x9 u => w_ruleOf_177b R Q x1 x4 x5 x6 x7 x8 x9 u) (fun c1 c4 c5 c6 c7 c8 c9 a => k = c1 ∧ l = c6 ∧ r = c7 ∧ bz c8 ∧ (c8 ≠ 0 → 0 ≤ v.2.1 0 l ∧ v.2.1 0 l ≠ 2) ∧ 0 ≤ c9 ∧ RS v a k) (fun _ _ _ _ _ _ c9 _ => (120 - c9).toNat) ?_ ⟨rfl, rfl, rfl, hb, hc, Int.le_refl _, hz⟩
    intro c1 c4 c5 c6 c7 c8 c9 a hI R ih
    obtain ⟨e1, e2, e3, q1, q2, q3, q4⟩ := hI
    subst e1
    subst e2
    subst e3
    obtain ⟨t, aT, aS⟩ := tab a q4
    have a48 := q4.2.2.2.2.2.1
    unfold w_ruleOf_177b
    refine bd_i k0 k1 (rd_i fun _ => br_i (fun _ => br_i (fun _ => k243 c4 c5 l r c8 (-1) a hl hr q1 q4 (Or.inl rfl)) fun hne => k243 c4 c5 l r c8 l a hl hr q1 q4 (Or.inr ⟨rfl, q2 hne⟩)) fun hlt => br_i (fun _ => ov_i (by omega) (by omega) (ih _ _ _ _ _ _ _ _ ⟨rfl, rfl, rfl, Or.inl rfl, fun z => absurd rfl z, by omega, q4⟩ (by omega))) fun hne => ov_i (by omega) (by omega) (ov_i (by omega) (by omega) (bd_i (by omega) (by omega) (rd_i fun _ => ?_))))
    have hh := q4.2.2.2.2.2.2 c9 q3 (by omega)
    have hs := hh.2
    refine g_covers (u := a) aT ((hl.1.w).eq t) (by rw [sz_t t]; omega) ((hh.1.w).eq t) (by rw [sz_t t]; omega) fun b w _ hF hL => ?_
    have wS := stepV fV a w fV_Ru rfl rfl rfl rfl q4 hF hL
    exact br_i (fun _ => ov_i (by omega) (by omega) (ih _ _ _ _ _ _ _ _ ⟨rfl, rfl, rfl, Or.inl rfl, fun z => absurd rfl z, by omega, wS⟩ (by omega))) fun _ => ov_i (by omega) (by omega) (ih _ _ _ _ _ _ _ _ ⟨rfl, rfl, rfl, Or.inr rfl, fun _ => q2 hne, by omega, wS⟩ (by omega))
  have k103 : ∀ (x4 x5 l r : Int) (z : iST), TJ v l → TJ v r → RS v z k → w_ruleOf_103 Q k x4 x5 l r z := by
    intro x4 x5 l r z hl hr hz
    have ls := hl.2
    have rs := hr.2
    obtain ⟨t, zT, zS⟩ := tab z hz
    have lr := hl.1.r
    have k171 : ∀ y, RS v y k → w_ruleOf_171 Q k x4 x5 l r y := fun y hy => by
      unfold w_ruleOf_171
      exact k172 x4 x5 l r 0 y hl hr (Or.inl rfl) (fun q => absurd rfl q) hy
    unfold w_ruleOf_103
    refine s_isCall lr.1 (by omega) fun b _ hb => br_i (fun _ => k171 z hz) fun hne => bd_i lr.1 (by omega) (rd_i fun _ => br_i (fun _ => k171 z hz) fun _ => bd_i lr.1 (by omega) (rd_i fun _ => br_i (fun _ => k171 z hz) fun _ => bd_i lr.1 (by omega) (rd_i fun _ => br_i (fun _ => k171 z hz) fun _ => br_i (fun _ => k171 z hz) fun _ => ?_)))
    have hc := hb.mp hne
    rw [(t 0 (by decide)).2] at hc
    refine g_covers (u := z) zT ((hl.1.w).eq t) (by rw [sz_t t]; omega) ((hr.1.w).eq t) (by rw [sz_t t]; omega) fun b w _ hF hL => ?_
    have wS := stepV fV z w fV_Ru rfl rfl rfl rfl hz hF hL
    exact br_i (fun _ => k171 w wS) fun _ => k172 x4 x5 l r 1 w hl hr (Or.inr rfl) (fun _ => hc) wS
  unfold w_ruleOf
  refine bd_i k0 k1 (sw_i ?_)
  have start : HP v (iA v 48 k 0) k := ⟨Fx_A (k := 48) rfl, rfl, fun j hj => by rw [iA_same, if_neg hj], fun i _ => by rw [iA_other (by decide)], by rw [iA_same, if_pos rfl]; exact Int.le_refl _, fun i i0 i1 => by rw [iA_same, if_pos rfl] at i1; omega⟩
  have s48 : (iA v 48 k 0).2.1 48 k = 0 := by rw [iA_same, if_pos rfl]
  unfold w_ruleOf_9
  refine lf2 (B := fun R x1 x3 u => w_ruleOf_9b R Q x1 x3 u) (fun x1 x3 w => k = x1 ∧ HP v w k ∧ TJ v x3 ∧ w.2.1 48 k + sz v x3 ≤ 120) (fun _ x3 _ => (sz v x3).toNat) ?_ ⟨rfl, start, hf, by rw [s48]; have := hf.2; omega⟩
  intro x1 o w hI R ih
  obtain ⟨e1, p1, p2, p3⟩ := hI
  subst e1
  have os := p2.1.szr hT
  have p48 := p1.2.2.2.2.1
  have or := p2.1.r
  have t : ∀ k, k ≤ 11 → w.1 k = v.1 k ∧ w.2.1 k = v.2.1 k := fun k hk => p1.1 k (fH_t k hk)
  have wT : TI w := TI_eq hT t p1.2.1
  have wS : RS v w k := ⟨p1.1.mono (fun g hg => by simp [fRu] at hg; simp [fH]; omega), p1.2.1, fun j hj => ⟨by rw [fx_a p1.1 46 rfl], by rw [fx_a p1.1 47 rfl], p1.2.2.1 j hj⟩, p1.2.2.2.1, p48, by omega, p1.2.2.2.2.2⟩
  have w8 := (t 8 (by decide)).1
  have e0 := (t 0 (by decide)).2
  unfold w_ruleOf_9b
  refine s_isCallOf or.1 (by omega) fun b _ hb => br_i (fun _ => s_isCallOf or.1 (by omega) fun b2 _ hb2 => s_isCallOf or.1 (by omega) fun b3 _ hb3 => ?_) fun hz => ?_
  · rw [e0] at hb2 hb3
    have k67 : (b2 ≠ 0 ∨ b3 ≠ 0) → w_ruleOf_67 Q k o b2 b3 w := by
      intro hor
      have hrange : 3 ≤ v.2.1 0 o ∧ v.2.1 0 o ≤ 16 := by
        rcases hor with q | q
        · have := hb2.mp q; omega
        · have := hb3.mp q; omega
      have h1 : TJ v (el v o 1) := TJ.el (i := 1) hT p2 hrange.1 hrange.2 (Or.inl rfl)
      unfold w_ruleOf_67
      refine s_term wT or.1 (by omega) (by decide) (by decide) ?_
      rw [el_t t]
      unfold w_ruleOf_77
      refine br_i (fun _ => br_i (fun _ => k103 _ _ _ _ w h1 (TJ.c1 hT) wS) fun _ => k103 _ _ _ _ w h1 (TJ.c0 hT) wS) fun hne => s_term wT or.1 (by omega) (by decide) (by decide) ?_
      have h4 := hb2.mp hne
      rw [el_t t]
      exact k103 _ _ _ _ w h1 (TJ.el (i := 2) hT p2 hrange.1 hrange.2 (Or.inr (Or.inl ⟨rfl, by omega⟩))) wS
    refine br_i (fun h => k67 (Or.inl h)) fun h => br_i (fun h3 => ?_) fun h3 => k67 (Or.inr h3)
    unfold w_ruleOf_77
    exact br_y (by omega) (br_y h3 (k103 _ _ _ _ w p2 (TJ.c1 hT) wS))
  · rw [e0] at hb
    have h6 := hb.mp hz
    have hsz := BIN_sz hT p2 (by omega) (by omega)
    have h1 : TJ v (el v o 1) := TJ.el (i := 1) hT p2 (by omega) (by omega) (Or.inl rfl)
    have h2 : TJ v (el v o 2) := TJ.el (i := 2) hT p2 (by omega) (by omega) (Or.inr (Or.inl ⟨rfl, by omega⟩))
    have s1 := h1.1.szr hT
    have s2 := h2.1.szr hT
    refine s_term wT or.1 (by omega) (by decide) (by decide) ?_
    rw [el_t t]
    refine g_hypotheses hT p1 k0 k1 h1 (show w.2.1 48 k + sz v (el v o 1) ≤ 120 by omega) fun y hy hy48 => ?_
    have t2 : ∀ k, k ≤ 11 → y.1 k = v.1 k ∧ y.2.1 k = v.2.1 k := fun k hk => hy.1 k (fH_t k hk)
    refine s_term (TI_eq hT t2 hy.2.1) or.1 (by rw [(t2 8 (by decide)).1]; exact or.2) (by decide) (by decide) ?_
    rw [el_t t2]
    have hy48 : y.2.1 48 k ≤ w.2.1 48 k + sz v (el v o 1) := hy48
    exact ih _ _ _ ⟨rfl, hy, h2, show y.2.1 48 k + sz v (el v o 2) ≤ 120 by omega⟩ (show (sz v (el v o 2)).toNat < (sz v o).toNat by omega)
