/-! the class: terms are made, bound, matched, listed -/
abbrev tmS : List Nat := [29, 32, 39]
abbrev tmR : List Nat := [27, 28, 29, 30, 35, 36, 37, 38, 39, 40, 41, 42, 43]
theorem BV.rg {u v : iST} {S R : List Nat} (h : BV u) (g : RG S R u v) (h1 : 39 ∉ S) (h2 : 36 ∉ R) : BV v := h.keep (g.s 39 h1) (g.a 36 h2) g.2.1.1
theorem j_bind {u : iST} {x y : Int} {Q : iST → Prop} (hT : RT u) (hV : BV u) (hy : y < u.1 29) (hq : ∀ v, RG [39] [35, 36] u v → BV v → Q v) : v_10_bind x y Q u := by
  have h0 := hV.1
  have h1 := hV.2.1
  unfold v_10_bind
  refine rd_i fun _ => br_i (fun _ => hq u (RG.rf hT) hV) fun hlt => rd_i fun _ => bd_i h0 (by omega) (sw_e fun w1 e1 => rd_i fun _ => ?_)
  have a1 : w1.1 = u.1 := by rw [e1]; rfl
  rw [a1]
  refine bd_i h0 (by omega) (sw_e fun w2 e2 => rd_i fun _ => ?_)
  have a2 : w2.1 = u.1 := by rw [e2, ← a1]; rfl
  rw [a2]
  refine ov_i (by omega) (by omega) (sw_e fun w3 e3 => hq w3 ?_ ?_)
  · rw [e3, e2, e1]
    exact (((RG.rf hT).A _ _ (by decide) (by decide)).A _ _ (by decide) (by decide)).I _ (by decide) (by decide) (by decide)
  · have s39 : w3.1 39 = u.1 39 + 1 := by rw [e3]; rfl
    have s29 : w3.1 29 = u.1 29 := by
      have : w3.1 29 = w2.1 29 := by rw [e3]; rfl
      rw [this, a2]
    have r36 : ∀ i, w3.2.1 36 i = if i = u.1 39 then y else u.2.1 36 i := fun i => by
      have : w3.2.1 36 i = if i = u.1 39 then y else w1.2.1 36 i := by rw [e3, e2]; rfl
      rw [this, e1]; rfl
    refine ⟨by omega, by omega, fun k k0 k1 => ?_⟩
    rw [r36, s29]
    by_cases e : k = u.1 39
    · rw [if_pos e]; exact hy
    · rw [if_neg e]; exact hV.2.2 k k0 (by omega)
theorem j_bindRow {u : iST} {x y : Int} {Q : iST → Prop} (hT : RT u) (hq : ∀ v, RG [39] [35, 36] u v → BV v → Q v) : v_10_bindRow x y Q u := by
  unfold v_10_bindRow
  refine sw_e fun w e => ?_
  have wr : RG [39] [35, 36] u w := by rw [e]; exact (RG.rf hT).I _ (by decide) (by decide) (by decide)
  have wV : BV w := by
    have s39 : w.1 39 = 0 := by rw [e]; rfl
    exact ⟨by omega, by omega, fun k k0 k1 => by omega⟩
  clear e
  unfold v_10_bindRow_10
  refine lf2 (B := fun R y3 y4 u => v_10_bindRow_10b R Q y3 y4 u) (fun y3 y4 v => RG [39] [35, 36] u v ∧ BV v) (fun _ y4 _ => y4.toNat) ?_ ⟨wr, wV⟩
  intro y3 y4 v hI R ih
  obtain ⟨vr, vV⟩ := hI
  have vT := vr.1
  unfold v_10_bindRow_10b
  refine j_isPair vT (fun hp => br_n (by decide) (j_left vT (j_left vT (j_bind vT vV (eL_r vT _).2.1 fun z hz zV => j_right hz.1 (j_right hz.1 (ih _ _ _ ⟨vr.tr hz, zV⟩ ?_)))))) fun _ => br_y rfl (hq v vr vV)
  have e1 := (hz.2.1.el hp.2.1).2
  have q := eR_r vT y4
  have := q.2.2 hp
  rw [e1]
  omega
theorem j_areDiff {u : iST} {x : Int} {Q : Int → iST → Prop} (hT : RT u) (hq : ∀ b, bz b → Q b u) : v_10_areDifferentVariables x Q u := by
  have z := j_q hq
  unfold v_10_areDifferentVariables v_10_areDifferentVariables_2
  refine lf1 (B := fun R y2 u => v_10_areDifferentVariables_2b R Q y2 u) (fun y2 v => u = v) (fun y2 _ => y2.toNat) ?_ rfl
  intro y2 v hI R ih
  subst hI
  unfold v_10_areDifferentVariables_2b
  refine j_isPair hT (fun hp => br_n (by decide) (j_left hT (j_isVariable hT fun b _ _ => br_i (fun _ => j_right hT ?_) fun _ => z.1))) fun _ => br_y rfl z.2
  have q := eR_r hT y2
  have q2 := q.2.2 hp
  unfold v_10_areDifferentVariables_42
  refine lf2 (B := fun R42 c2 c3 u => v_10_areDifferentVariables_42b R R42 Q c2 c3 u) (fun c2 c3 v => y2 = c2 ∧ u = v) (fun _ c3 _ => c3.toNat) ?_ ⟨rfl, rfl⟩
  intro c2 c3 v hI2 R2 ih2
  obtain ⟨rfl, rfl⟩ := hI2
  unfold v_10_areDifferentVariables_42b
  refine j_isPair hT (fun hp3 => br_n (by decide) (j_left hT (j_left hT (br_i (fun _ => j_right hT (ih2 _ _ _ ⟨rfl, rfl⟩ ?_)) fun _ => z.1)))) fun _ => br_y rfl (j_right hT (ih _ _ rfl (by omega)))
  have r := eR_r hT c3
  have := r.2.2 hp3
  omega
/-- what reading wants -/
def RdOk (u : iST) : Prop := BN u ∧ (16 < u.1 37 ∨ u.1 37 = -1) ∧ (-1 ≤ u.1 38 ∧ u.1 38 ≤ 6)
theorem RdOk.rg {u v : iST} {S R : List Nat} (h : RdOk u) (g : RG S R u v) (h0 : 0 ∉ S) (h1 : 1 ∉ S) (h7 : 37 ∉ S) (h8 : 38 ∉ S) (h2 : 2 ∉ R) (h3 : 0 ∉ R) : RdOk v := ⟨h.1.keep (g.s 0 h0) (g.s 1 h1) (g.a 2 h2) (g.a 0 h3), by rw [g.s 37 h7]; exact h.2.1, by rw [g.s 38 h8]; exact h.2.2⟩
theorem j_read {u : iST} {x : Int} {Q : Int → iST → Prop} (hT : RT u) (hR : RdOk u) (x0 : 0 ≤ x) (hx : x < u.1 29) (h39 : 0 ≤ u.1 39 ∧ u.1 39 ≤ 256) (hq : ∀ t v, RG mS rbR u v → t < v.1 29 → -1 ≤ t ∨ v.1 32 ≠ 0 → (v.1 32 = 0 → t ≠ -1 → WF v t ∧ 0 ≤ t) → Q t v) : v_10_rebuilt x 0 Q u :=
  j_rebuilt hT hR.1 hx (fun _ => x0) hR.2.1 hR.2.2 (fun z => absurd z (by decide)) h39 (fun z => absurd z (by decide)) fun t v h1 h2 h3 => hq t v h1 h2 (by
    by_cases z : v.1 32 = 0
    · by_cases y : t = -1
      · exact Or.inl (by omega)
      · exact Or.inl (by have := (h3 rfl z y).2; omega)
    · exact Or.inr z) (h3 rfl)
theorem j_fill {u : iST} {x : Int} {Q : Int → iST → Prop} (hT : RT u) (hR : RdOk u) (hx : x < u.1 29) (hV : BV u) (hq : ∀ t v, RG mS rbR u v → t < v.1 29 → Q t v) : v_10_rebuilt x 1 Q u :=
  j_rebuilt hT hR.1 hx (fun z => absurd z (by decide)) hR.2.1 hR.2.2 (fun _ => hV) ⟨hV.1, hV.2.1⟩ (fun z => absurd z (by decide)) fun t v h1 h2 _ => hq t v h1 h2
theorem j_bindPairs {u : iST} {x : Int} {Q : Int → iST → Prop} (hT : RT u) (hR : RdOk u) (hx : x < u.1 29) (hq : ∀ b v, bz b → RG tmS tmR u v → BV v → Q b v) : v_10_bindPairs x Q u := by
  unfold v_10_bindPairs
  refine sw_e fun w e => ?_
  have wr : RG tmS tmR u w := by rw [e]; exact (RG.rf hT).I _ (by decide) (by decide) (by decide)
  have wV : BV w := by
    have s39 : w.1 39 = 0 := by rw [e]; rfl
    exact ⟨by omega, by omega, fun k k0 k1 => by omega⟩
  have wx : x < w.1 29 := wr.up hx
  clear e
  unfold v_10_bindPairs_7
  refine lf1 (B := fun R y2 u => v_10_bindPairs_7b R Q y2 u) (fun y2 v => RG tmS tmR u v ∧ BV v ∧ y2 < v.1 29) (fun y2 _ => y2.toNat) ?_ ⟨wr, wV, wx⟩
  intro y2 v hI R ih
  obtain ⟨vr, vV, v2⟩ := hI
  have vT := vr.1
  unfold v_10_bindPairs_7b
  refine j_isPair vT (fun hp => br_n (by decide) (j_left vT (j_left vT ?_))) fun _ => br_y rfl (zt_1 (hq 1 v (Or.inr rfl) vr vV))
  have l := eL_r vT y2
  have k67 : ∀ z y0 a, RG tmS tmR u z → BV z → Ce v z → y0 < z.1 29 → v_10_bindPairs_67 R Q y2 a y0 z := by
    intro z y0 a zr zV zC hy
    have zT := zr.1
    have no : zt 0 (Q 0 z) := zt_0 (hq 0 z (Or.inl rfl) zr zV)
    unfold v_10_bindPairs_67
    refine br_i (fun _ => no) fun _ => j_isVariable zT fun b _ _ => br_i (fun _ => no) fun _ => j_standsFor zV.1 zV.2.1 fun r _ => br_i (fun _ => j_bind zT zV hy fun s hs sV => j_right hs.1 (ih _ _ ⟨zr.tr (hs.w (by decide) (by decide)), sV, (eR_r hs.1 _).2.1⟩ ?_)) fun _ => no
    have e1 := ((zC.tr hs.2.1).el hp.2.1).2
    have q := eR_r vT y2
    have := q.2.2 hp
    rw [e1]
    omega
  have none : v_10_bindPairs_67 R Q y2 (eL v (eL v y2)) (-1) v := k67 v (-1) _ vr vV (Ce.rf v) (by have := vT.1.1; omega)
  refine j_lengthOf vT (br_y (by decide) none) fun n _ _ => br_i (fun _ => none) fun _ => j_item vT (by decide) fun b b0 b1 => j_read vT (hR.rg vr (by decide) (by decide) (by decide) (by decide) (by decide) (by decide)) b0 b1 ⟨vV.1, vV.2.1⟩ fun t z hz ht _ _ => k67 z t _ (vr.tr (hz.w (by decide) (by decide))) (vV.rg hz (by decide) (by decide)) hz.2.1 ht
theorem j_call {u : iST} {f a b d : Int} {Q : Int → iST → Prop} (hT : RT u) (hf : f < u.1 29) (ha : a < u.1 29) (hb : b < u.1 29) (hd : d < u.1 29) (hq : ∀ t v, RM u v → t < v.1 29 → Q t v) : v_10_call f a b d Q u := by
  have h44 := hT.1.1
  have k48 : ∀ z y, RM u z → y < z.1 29 → v_10_call_48 Q f a y z := by
    intro z y hz hy
    unfold v_10_call_48
    refine j_pair hz.1 (hz.up ha) hy fun t v hv t0 t1 _ => j_pair hv.1 (hv.up (hz.up hf)) t1 fun t2 w hw t3 t4 _ => j_sizeOf hw.1 fun s _ _ => br_i (fun _ => hq t2 w ((hz.tr hv).tr hw) t4) fun _ => j_blame hw.1 (by decide) fun x hx _ => hq (-1) x (((hz.tr hv).tr hw).tr hx) (by have := hx.1.1.1; omega)
  have k23 : ∀ z y, RM u z → y < z.1 29 → v_10_call_23 Q f a b y z := by
    intro z y hz hy
    unfold v_10_call_23
    exact br_i (fun _ => j_pair hz.1 (hz.up hb) hy fun t v hv t0 t1 _ => k48 v t (hz.tr hv) t1) fun _ => k48 z y hz hy
  unfold v_10_call
  exact br_i (fun _ => j_pair hT hd (by omega) fun t v hv t0 t1 _ => k23 v t hv t1) fun _ => k23 u 0 (RG.rf hT) (by omega)
theorem j_negated {u : iST} {x : Int} {Q : Int → iST → Prop} (hT : RT u) (hx : x < u.1 29) (hq : ∀ t v, RM u v → t < v.1 29 → Q t v) : v_10_negated x Q u := by
  have h44 := hT.1.1
  unfold v_10_negated
  refine j_isCallOf hT (fun _ _ => br_n (by decide) (j_item hT (by decide) fun b b0 b1 => hq b u (RG.rf hT) b1)) fun _ => br_y rfl (j_isConstant hT fun b _ _ => br_i (fun _ => j_call hT (by omega) hx (by omega) (by omega) hq) fun _ => br_i (fun _ => hq 0 u (RG.rf hT) (by omega)) fun _ => hq 1 u (RG.rf hT) (by omega))
theorem j_isNegation {u : iST} {x y : Int} {Q : Int → iST → Prop} (hT : RT u) (hq : ∀ b, bz b → Q b u) : v_10_isNegation x y Q u := by
  have z := j_q hq
  have k53 : ∀ a b, v_10_isNegation_53 Q a b u := fun a b => by
    unfold v_10_isNegation_53
    exact br_i (fun _ => z.1) fun _ => z.2
  unfold v_10_isNegation
  exact j_isCallOf hT (fun _ _ => br_n (by decide) (j_item hT (by decide) fun b _ _ => br_i (fun _ => z.1) fun _ => z.2)) fun _ => br_y rfl (j_isConstant hT fun b _ _ => br_i (fun _ => j_isCallOf hT (fun _ _ => br_n (by decide) (j_item hT (by decide) fun b _ _ => br_i (fun _ => z.1) fun _ => z.2)) fun _ => br_y rfl z.1) fun _ => br_i (fun _ => k53 _ _) fun _ => k53 _ _)
theorem j_isBoolean {u : iST} {x : Int} {Q : Int → iST → Prop} (hT : RT u) (hq : ∀ b, bz b → Q b u) : v_10_isBoolean x Q u := by
  have z := j_q hq
  have k23 : ∀ y, v_10_isBoolean_23 Q x y u := fun y => by
    unfold v_10_isBoolean_23
    repeat' (first | exact z.1 | exact z.2 | refine br_i (fun _ => ?_) (fun _ => ?_))
  unfold v_10_isBoolean
  exact j_isCall hT (fun _ _ => br_n (by decide) (j_left hT (k23 _))) fun _ => br_y rfl (k23 _)
/-- all terms of a call are constants -/
theorem j_isOfConstants {u : iST} {x : Int} {Q : Int → iST → Prop} (hT : RT u) (hn : Q 0 u) (hy : (∀ n, LnP u n (eR u x) → AllL u (fun y => y < u.1 29 ∧ (pr u y → eL u y = 2)) n (eR u x)) → Q 1 u) : v_10_isOfConstants x Q u := by
  unfold v_10_isOfConstants
  refine j_right hT ?_
  unfold v_10_isOfConstants_9
  refine lf1 (B := fun R y2 u => v_10_isOfConstants_9b R Q y2 u) (fun y2 v => u = v ∧ ((∀ n, LnP u n y2 → AllL u (fun y => y < u.1 29 ∧ (pr u y → eL u y = 2)) n y2) → ∀ n, LnP u n (eR u x) → AllL u (fun y => y < u.1 29 ∧ (pr u y → eL u y = 2)) n (eR u x))) (fun y2 _ => y2.toNat) ?_ ⟨rfl, id⟩
  intro y2 v hI R ih
  obtain ⟨rfl, hI⟩ := hI
  unfold v_10_isOfConstants_9b
  refine j_isPair hT (fun hp => br_n (by decide) (j_left hT (j_isConstant hT fun b hb hc => br_i (fun hb0 => j_right hT (ih _ _ ⟨rfl, fun hall => hI (fun n hn2 => ?_)⟩ ?_)) fun _ => zt_0 hn))) fun hp => br_y rfl (zt_1 (hy (hI (fun n hn2 => ?_))))
  · cases n with
    | zero => trivial
    | succ n => exact ⟨hc hb0, hall n hn2.2⟩
  · have q := eR_r hT y2
    have := q.2.2 hp
    omega
  · cases n with
    | zero => trivial
    | succ n => exact absurd hn2.1 hp
theorem j_matches {u : iST} {x y : Int} {Q : Int → iST → Prop} (hT : RT u) (hy : y < u.1 29) (hq : ∀ b v, bz b → RG tmS tmR u v → BV v → Q b v) : v_10_matches x y Q u := by
  unfold v_10_matches
  refine sw_e fun w0 e0 => bd_i (by decide) (by decide) (sw_e fun w1 e1 => bd_i (by decide) (by decide) (sw_e fun w2 e2 => ?_))
  have wr : RG tmS tmR u w2 := by
    rw [e2, e1, e0]
    exact (((RG.rf hT).I _ (by decide) (by decide) (by decide)).A _ _ (by decide) (by decide)).A _ _ (by decide) (by decide)
  have wV : BV w2 := by
    have s39 : w2.1 39 = 0 := by rw [e2, e1, e0]; rfl
    exact ⟨by omega, by omega, fun k k0 k1 => by omega⟩
  have w42 : w2.2.1 42 0 = y := by rw [e2]; rfl
  have w29 : w2.1 29 = u.1 29 := by rw [e2, e1, e0]; rfl
  clear e0 e1 e2
  unfold v_10_matches_24
  refine lf2 (B := fun R y3 y4 u => v_10_matches_24b R Q y3 y4 u) (fun y3 y4 v => RG tmS tmR u v ∧ BV v ∧ 0 ≤ y4 ∧ y3 ≤ 128 ∧ ∀ i, 0 ≤ i → i < y3 → v.2.1 42 i < v.1 29) (fun _ y4 _ => (1000000 - y4).toNat) ?_ ⟨wr, wV, Int.le_refl _, by decide, fun i i0 i1 => by
    have : i = 0 := by omega
    rw [this, w42, w29]; exact hy⟩
  intro y3 y4 v hI R ih
  obtain ⟨vr, vV, v4, v3, vt⟩ := hI
  have vT := vr.1
  have yes : zt 1 (Q 1 v) := zt_1 (hq 1 v (Or.inr rfl) vr vV)
  have no : zt 0 (Q 0 v) := zt_0 (hq 0 v (Or.inl rfl) vr vV)
  unfold v_10_matches_24b
  refine br_i (fun _ => yes) fun h4 => br_i (fun _ => yes) fun h3 => ov_i (by omega) (by omega) (bd_i (by omega) (by omega) (rd_i fun _ => bd_i (by omega) (by omega) (rd_i fun _ => ?_)))
  have tv := vt (y3 + (-1)) (by omega) (by omega)
  have nx : ∀ z, RG tmS tmR u z → BV z → (∀ i, 0 ≤ i → i < y3 + (-1) → z.2.1 42 i < z.1 29) → ov (y4 + 1) (R (y3 + (-1)) (y4 + 1) z) := fun z h1 h2 h5 => ov_i (by omega) (by omega) (ih _ _ _ ⟨h1, h2, by omega, by omega, h5⟩ (by omega))
  have nv := nx v vr vV (fun i i0 i1 => vt i i0 (by omega))
  refine j_isVariable vT fun b _ _ => br_i (fun _ => j_isCall vT (fun _ _ => br_y (by decide) (j_left vT (j_isCallOf vT (fun _ _ => br_y (by decide) (j_right vT (j_right vT ?_))) fun _ => br_n (fun z => z rfl) no))) fun _ => br_n (fun z => z rfl) (br_i (fun _ => nv) fun _ => no)) fun _ => j_standsFor vV.1 vV.2.1 fun r _ => br_i (fun _ => br_i (fun _ => nv) fun _ => no) fun _ => j_bind vT vV tv fun z hz zV => nx z (vr.tr (hz.w (by decide) (by decide))) zV (fun i i0 i1 => by rw [hz.a 42 (by decide)]; exact hz.up (vt i i0 (by omega)))
  unfold v_10_matches_169
  refine lf4 (B := fun R169 c3 c4 c7 c8 u => v_10_matches_169b R R169 Q c3 c4 c7 c8 u) (fun c3 c4 c7 c8 z => y4 = c4 ∧ RG tmS tmR u z ∧ BV z ∧ 0 ≤ c3 ∧ c3 ≤ 128 ∧ ∀ i, 0 ≤ i → i < c3 → z.2.1 42 i < z.1 29) (fun _ _ _ c8 _ => c8.toNat) ?_ ⟨rfl, vr, vV, by omega, by omega, fun i i0 i1 => vt i i0 (by omega)⟩
  intro c3 c4 c7 c8 z hI2 R2 ih2
  obtain ⟨rfl, zr, zV, z0, z1, zt42⟩ := hI2
  have zT := zr.1
  have out : ov (y4 + 1) (R c3 (y4 + 1) z) := ov_i (by omega) (by omega) (ih _ _ _ ⟨zr, zV, by omega, z1, zt42⟩ (by omega))
  unfold v_10_matches_169b
  refine j_isPair zT (fun hp => br_n (by decide) (br_i (fun _ => out) fun hlt => j_left zT (bd_i z0 (by omega) (sw_e fun s1 e1 => ?_)))) fun _ => br_y rfl out
  have C1 : Ce z s1 := by rw [e1]; exact ⟨Int.le_refl _, fun _ _ _ => rfl⟩
  have r1 : RG tmS tmR u s1 := by rw [e1]; exact zr.A _ _ (by decide) (by decide)
  have V1 : BV s1 := by rw [e1]; exact zV.keep rfl rfl (Int.le_refl _)
  have f1 : ∀ i, s1.2.1 42 i = z.2.1 42 i := fun i => by rw [e1]; rfl
  clear e1
  refine j_left r1.1 (bd_i z0 (by omega) (sw_e fun s2 e2 => ?_))
  have C2 : Ce s1 s2 := by rw [e2]; exact ⟨Int.le_refl _, fun _ _ _ => rfl⟩
  have r2 : RG tmS tmR u s2 := by rw [e2]; exact r1.A _ _ (by decide) (by decide)
  have V2 : BV s2 := by rw [e2]; exact V1.keep rfl rfl (Int.le_refl _)
  have f2 : ∀ i, s2.2.1 42 i = if i = c3 then eL s1 c7 else s1.2.1 42 i := fun i => by rw [e2]; rfl
  clear e2
  refine j_right r2.1 (ov_i (by omega) (by omega) (j_right r2.1 (ih2 _ _ _ _ _ ⟨rfl, r2, V2, by omega, by omega, fun i i0 i1 => ?_⟩ ?_)))
  · rw [f2]
    by_cases e : i = c3
    · rw [if_pos e]
      have := (eL_r r1.1 c7).2.1
      have := C2.1
      omega
    · rw [if_neg e, f1]
      have := zt42 i i0 (by omega)
      have := (C1.tr C2).1
      omega
  · rw [((C1.tr C2).el hp.2.1).2]
    have q := eR_r zT c8
    have := q.2.2 hp
    omega
theorem j_isBoundToVariables {u : iST} {Q : Int → iST → Prop} (hT : RT u) (h0 : 0 ≤ u.1 39) (h1 : u.1 39 ≤ 256) (hq : ∀ b, bz b → Q b u) : v_10_isBoundToVariables Q u := by
  have z := j_q hq
  unfold v_10_isBoundToVariables v_10_isBoundToVariables_2
  refine lf1 (B := fun R y1 u => v_10_isBoundToVariables_2b R Q y1 u) (fun y1 v => 0 ≤ y1 ∧ u = v) (fun y1 _ => (256 - y1).toNat) ?_ ⟨Int.le_refl _, rfl⟩
  intro y1 v hI R ih
  obtain ⟨p1, rfl⟩ := hI
  unfold v_10_isBoundToVariables_2b
  refine rd_i fun _ => br_i (fun _ => z.2) fun hlt => bd_i p1 (by omega) (rd_i fun _ => j_isVariable hT fun b _ _ => br_i (fun _ => ?_) fun _ => z.1)
  unfold v_10_isBoundToVariables_30
  refine lf2 (B := fun R30 c1 c2 u => v_10_isBoundToVariables_30b R R30 Q c1 c2 u) (fun c1 c2 v => y1 = c1 ∧ 0 ≤ c2 ∧ u = v) (fun _ c2 _ => (256 - c2).toNat) ?_ ⟨rfl, Int.le_refl _, rfl⟩
  intro c1 c2 v hI2 R2 ih2
  obtain ⟨rfl, p2, rfl⟩ := hI2
  unfold v_10_isBoundToVariables_30b
  exact br_i (fun _ => ov_i (by omega) (by omega) (ih _ _ ⟨by omega, rfl⟩ (by omega))) fun hlt2 => bd_i p2 (by omega) (rd_i fun _ => bd_i p1 (by omega) (rd_i fun _ => br_i (fun _ => ov_i (by omega) (by omega) (ih2 _ _ _ ⟨rfl, by omega, rfl⟩ (by omega))) fun _ => z.1))
theorem j_listParts {u : iST} {x : Int} {Q : Int → iST → Prop} (hT : RT u) (hx : x < u.1 29) (hq : ∀ n v, 0 ≤ n → n ≤ 128 → RG [] [41, 43] u v → (∀ i, 0 ≤ i → i < n → v.2.1 43 i < v.1 29) → Q n v) : v_10_listParts x Q u := by
  unfold v_10_listParts
  refine bd_i (by decide) (by decide) (sw_e fun w e => ?_)
  have wr : RG [] [41, 43] u w := by rw [e]; exact (RG.rf hT).A _ _ (by decide) (by decide)
  have w0 : w.2.1 41 0 < w.1 29 := by rw [e]; exact hx
  clear e
  unfold v_10_listParts_11
  refine lf2 (B := fun R y2 y3 u => v_10_listParts_11b R Q y2 y3 u) (fun y2 y3 v => RG [] [41, 43] u v ∧ 0 ≤ y3 ∧ y3 ≤ 128 ∧ y2 ≤ 128 ∧ (∀ i, 0 ≤ i → i < y2 → v.2.1 41 i < v.1 29) ∧ ∀ i, 0 ≤ i → i < y3 → v.2.1 43 i < v.1 29) (fun _ y3 _ => (128 - y3).toNat) ?_ ⟨wr, Int.le_refl _, by decide, by decide, fun i i0 i1 => by
    have : i = 0 := by omega
    rw [this]; exact w0, fun i i0 i1 => by omega⟩
  intro y2 y3 v hI R ih
  obtain ⟨vr, v3, v3b, v2, va, vb⟩ := hI
  unfold v_10_listParts_11b
  refine br_i (fun _ => hq y3 v v3 v3b vr vb) fun h2 => br_i (fun _ => hq y3 v v3 v3b vr vb) fun h3 => ov_i (by omega) (by omega) (bd_i (by omega) (by omega) (rd_i fun _ => bd_i v3 (by omega) (sw_e fun s e => ov_i (by omega) (by omega) ?_)))
  have tv := va (y2 + (-1)) (by omega) (by omega)
  have sr : RG [] [41, 43] u s := by rw [e]; exact vr.A _ _ (by decide) (by decide)
  have s41 : s.2.1 41 = v.2.1 41 := by rw [e]; rfl
  have s29 : s.1 = v.1 := by rw [e]; rfl
  have s43 : ∀ i, s.2.1 43 i = if i = y3 then v.2.1 41 (y2 + (-1)) else v.2.1 43 i := fun i => by rw [e]; rfl
  clear e
  have sT := sr.1
  have sb : ∀ i, 0 ≤ i → i < y3 + 1 → s.2.1 43 i < s.1 29 := fun i i0 i1 => by
    rw [s43, s29]
    by_cases e : i = y3
    · rw [if_pos e]; exact tv
    · rw [if_neg e]; exact vb i i0 (by omega)
  have k76 : ∀ n : Int, n ≤ 160000 → v_10_listParts_76 R Q (y2 + (-1)) (y3 + 1) (v.2.1 41 (y2 + (-1))) n s := by
    intro n hn
    unfold v_10_listParts_76 v_10_listParts_82
    refine lf4 (B := fun R82 c2 c3 c4 c6 u => v_10_listParts_82b R R82 Q c2 c3 c4 c6 u) (fun c2 c3 c4 c6 z => y3 + 1 = c3 ∧ c6 ≤ 160000 ∧ 0 ≤ c2 ∧ c2 ≤ 128 ∧ RG [] [41, 43] u z ∧ z.1 29 = s.1 29 ∧ z.2.1 43 = s.2.1 43 ∧ ∀ i, 0 ≤ i → i < c2 → z.2.1 41 i < z.1 29) (fun _ _ _ c6 _ => c6.toNat) ?_ ⟨rfl, hn, by omega, by omega, sr, rfl, rfl, fun i i0 i1 => by rw [s41, s29]; exact va i i0 (by omega)⟩
    intro c2 c3 c4 c6 z hI2 R2 ih2
    obtain ⟨rfl, p6, p2, p2b, zr, z29, z43, za⟩ := hI2
    have out : R c2 (y3 + 1) z := ih _ _ _ ⟨zr, by omega, by omega, p2b, za, fun i i0 i1 => by rw [z43, z29]; exact sb i i0 i1⟩ (by omega)
    unfold v_10_listParts_82b
    refine br_i (fun _ => out) fun h6 => br_i (fun _ => out) fun hc => j_item zr.1 (by omega) fun b b0 b1 => bd_i p2 (by omega) (sw_e fun t e => ov_i (by omega) (by omega) (ov_i (by omega) (by omega) (ih2 _ _ _ _ _ ⟨rfl, by omega, by omega, by omega, ?_, ?_, ?_, fun i i0 i1 => ?_⟩ (by omega))))
    · rw [e]; exact zr.A _ _ (by decide) (by decide)
    · rw [e]; exact z29
    · rw [e]; exact z43
    · have t41 : ∀ i, t.2.1 41 i = if i = c2 then b else z.2.1 41 i := fun i => by rw [e]; rfl
      have t29 : t.1 = z.1 := by rw [e]; rfl
      rw [t41, t29]
      by_cases e2 : i = c2
      · rw [if_pos e2]; exact b1
      · rw [if_neg e2]; exact za i i0 (by omega)
  exact j_isCall sT (fun _ _ => br_n (by decide) (j_right sT (j_lengthOf sT (k76 _ (by decide)) fun n hn _ => k76 n hn))) fun _ => br_y rfl (k76 0 (by decide))
theorem j_hasCallOf {u : iST} {x y : Int} {Q : Int → iST → Prop} (hT : RT u) (hx : x < u.1 29) (hq : ∀ b v, bz b → RG [] [41, 43] u v → Q b v) : v_10_hasCallOf x y Q u := by
  unfold v_10_hasCallOf
  refine j_listParts hT hx fun n v n0 n1 vr _ => ?_
  unfold v_10_hasCallOf_9
  refine lf3 (B := fun R y2 y3 y4 u => v_10_hasCallOf_9b R Q y2 y3 y4 u) (fun y2 y3 y4 z => y = y2 ∧ n = y3 ∧ 0 ≤ y4 ∧ v = z) (fun _ _ y4 _ => (128 - y4).toNat) ?_ ⟨rfl, rfl, Int.le_refl _, rfl⟩
  intro y2 y3 y4 z hI R ih
  obtain ⟨rfl, rfl, p4, rfl⟩ := hI
  unfold v_10_hasCallOf_9b
  exact br_i (fun _ => zt_0 (hq 0 v (Or.inl rfl) vr)) fun hlt => bd_i p4 (by omega) (rd_i fun _ => j_isCallOf vr.1 (fun _ _ => br_n (by decide) (zt_1 (hq 1 v (Or.inr rfl) vr))) fun _ => br_y rfl (ov_i (by omega) (by omega) (ih _ _ _ _ ⟨rfl, rfl, by omega, rfl⟩ (by omega))))
theorem j_hasVariablesOf {u : iST} {x y : Int} {Q : Int → iST → Prop} (hT : RT u) (hx : x < u.1 29) (hq : ∀ b v, bz b → RG [] [41, 43] u v → Q b v) : v_10_hasVariablesOf x y Q u := by
  unfold v_10_hasVariablesOf
  refine j_listParts hT hx fun n v n0 n1 vr _ => ?_
  have vT := vr.1
  unfold v_10_hasVariablesOf_9
  refine lf3 (B := fun R y2 y3 y4 u => v_10_hasVariablesOf_9b R Q y2 y3 y4 u) (fun y2 y3 y4 z => y = y2 ∧ n = y3 ∧ 0 ≤ y4 ∧ v = z) (fun _ _ y4 _ => (128 - y4).toNat) ?_ ⟨rfl, rfl, Int.le_refl _, rfl⟩
  intro y2 y3 y4 z hI R ih
  obtain ⟨rfl, rfl, p4, rfl⟩ := hI
  unfold v_10_hasVariablesOf_9b
  refine br_i (fun _ => zt_1 (hq 1 v (Or.inr rfl) vr)) fun hlt => ?_
  have k99 : ∀ b, v_10_hasVariablesOf_99 R Q y n y4 b v := fun b => by
    unfold v_10_hasVariablesOf_99
    exact br_i (fun _ => ov_i (by omega) (by omega) (ih _ _ _ _ ⟨rfl, rfl, by omega, rfl⟩ (by omega))) fun _ => zt_0 (hq 0 v (Or.inl rfl) vr)
  have k37 : ∀ b, v_10_hasVariablesOf_37 R Q y n y4 b v := fun b => by
    unfold v_10_hasVariablesOf_37 v_10_hasVariablesOf_42
    refine lf5 (B := fun R42 c2 c3 c4 c5 c6 u => v_10_hasVariablesOf_42b R R42 Q c2 c3 c4 c5 c6 u) (fun c2 c3 c4 c5 c6 z => y = c2 ∧ n = c3 ∧ y4 = c4 ∧ v = z) (fun _ _ _ _ c6 _ => c6.toNat) ?_ ⟨rfl, rfl, rfl, rfl⟩
    intro c2 c3 c4 c5 c6 z hI2 R2 ih2
    obtain ⟨rfl, rfl, rfl, rfl⟩ := hI2
    unfold v_10_hasVariablesOf_42b
    refine j_isPair vT (fun hp => br_n (by decide) (br_i (fun _ => k99 _) fun _ => j_left vT (bd_i p4 (by omega) (rd_i fun _ => ?_)))) fun _ => br_y rfl (k99 _)
    have k83 : ∀ b, v_10_hasVariablesOf_83 R R2 Q y n y4 c6 b v := fun b => by
      unfold v_10_hasVariablesOf_83
      refine j_right vT (ih2 _ _ _ _ _ _ ⟨rfl, rfl, rfl, rfl⟩ ?_)
      have q := eR_r vT c6
      have := q.2.2 hp
      omega
    exact br_i (fun _ => k83 0) fun _ => k83 1
  exact bd_i p4 (by omega) (rd_i fun _ => j_isVariable vT fun b _ _ => br_i (fun _ => k37 0) fun _ => k37 1)
theorem j_hasBound {u : iST} {x : Int} {Q : Int → iST → Prop} (hT : RT u) (hx : x < u.1 29) (h0 : 0 ≤ u.1 39) (h1 : u.1 39 ≤ 256) (hq : ∀ b v, bz b → RG [] [41, 43] u v → Q b v) : v_10_hasBound x Q u := by
  unfold v_10_hasBound
  refine j_listParts hT hx fun n v n0 n1 vr _ => ?_
  have v39 : v.1 39 = u.1 39 := vr.s 39 (by decide)
  unfold v_10_hasBound_11
  refine lf3 (B := fun R y2 y3 y4 u => v_10_hasBound_11b R Q y2 y3 y4 u) (fun y2 y3 y4 z => n = y2 ∧ 0 ≤ y3 ∧ y3 ≤ y4 ∧ y4 ≤ 256 ∧ v = z) (fun _ _ y4 _ => (256 - y4).toNat) ?_ ⟨rfl, Int.le_refl _, Int.le_refl _, by decide, rfl⟩
  intro y2 y3 y4 z hI R ih
  obtain ⟨rfl, p3, p4, p5, rfl⟩ := hI
  unfold v_10_hasBound_11b
  refine rd_i fun _ => br_i (fun _ => rd_i fun _ => br_i (fun _ => zt_0 (hq 0 v (Or.inl rfl) vr)) fun _ => zt_1 (hq 1 v (Or.inr rfl) vr)) fun hlt => ?_
  have k67 : ∀ b, v_10_hasBound_67 R Q n y3 y4 b v := fun b => by
    unfold v_10_hasBound_67
    exact br_i (fun _ => ov_i (by omega) (by omega) (ov_i (by omega) (by omega) (ih _ _ _ _ ⟨rfl, by omega, by omega, by omega, rfl⟩ (by omega)))) fun _ => ov_i (by omega) (by omega) (ov_i (by omega) (by omega) (ih _ _ _ _ ⟨rfl, by omega, by omega, by omega, rfl⟩ (by omega)))
  unfold v_10_hasBound_26
  refine lf5 (B := fun R26 c2 c3 c4 c5 c6 u => v_10_hasBound_26b R R26 Q c2 c3 c4 c5 c6 u) (fun c2 c3 c4 c5 c6 z => n = c2 ∧ y3 = c3 ∧ y4 = c4 ∧ 0 ≤ c6 ∧ v = z) (fun _ _ _ _ c6 _ => (128 - c6).toNat) ?_ ⟨rfl, rfl, rfl, Int.le_refl _, rfl⟩
  intro c2 c3 c4 c5 c6 z hI2 R2 ih2
  obtain ⟨rfl, rfl, rfl, q6, rfl⟩ := hI2
  unfold v_10_hasBound_26b
  exact br_i (fun _ => k67 _) fun h6 => br_i (fun _ => k67 _) fun _ => bd_i q6 (by omega) (rd_i fun _ => bd_i (by omega) (by omega) (rd_i fun _ => br_i (fun _ => ov_i (by omega) (by omega) (ih2 _ _ _ _ _ _ ⟨rfl, rfl, rfl, by omega, rfl⟩ (by omega))) fun _ => ov_i (by omega) (by omega) (ih2 _ _ _ _ _ _ ⟨rfl, rfl, rfl, by omega, rfl⟩ (by omega))))
theorem j_bindVariablesOf {u : iST} {x : Int} {Q : iST → Prop} (hT : RT u) (hx : x < u.1 29) (hq : ∀ v, RG tmS tmR u v → BV v → Q v) : v_10_bindVariablesOf x Q u := by
  unfold v_10_bindVariablesOf
  refine sw_e fun w e => ?_
  have wr : RG tmS tmR u w := by rw [e]; exact (RG.rf hT).I _ (by decide) (by decide) (by decide)
  have wV : BV w := by
    have s39 : w.1 39 = 0 := by rw [e]; rfl
    exact ⟨by omega, by omega, fun k k0 k1 => by omega⟩
  have wx := wr.up hx
  clear e
  refine j_listParts wr.1 wx fun n v n0 n1 vr vb => ?_
  unfold v_10_bindVariablesOf_13
  refine lf2 (B := fun R y2 y3 u => v_10_bindVariablesOf_13b R Q y2 y3 u) (fun y2 y3 z => n = y2 ∧ 0 ≤ y3 ∧ RG tmS tmR u z ∧ BV z ∧ ∀ i, 0 ≤ i → i < n → z.2.1 43 i < z.1 29) (fun _ y3 _ => (128 - y3).toNat) ?_ ⟨rfl, Int.le_refl _, wr.tr (vr.w (by decide) (by decide)), wV.rg vr (by decide) (by decide), vb⟩
  intro y2 y3 z hI R ih
  obtain ⟨rfl, p3, zr, zV, zb⟩ := hI
  have zT := zr.1
  unfold v_10_bindVariablesOf_13b
  refine br_i (fun _ => hq z zr zV) fun hlt => ?_
  have nx : ov (y3 + 1) (R n (y3 + 1) z) := ov_i (by omega) (by omega) (ih _ _ _ ⟨rfl, by omega, zr, zV, zb⟩ (by omega))
  exact bd_i p3 (by omega) (rd_i fun _ => j_isVariable zT fun b _ _ => br_i (fun _ => nx) fun _ => bd_i p3 (by omega) (rd_i fun _ => j_standsFor zV.1 zV.2.1 fun r _ => br_i (fun _ => nx) fun _ => bd_i p3 (by omega) (rd_i fun _ => bd_i p3 (by omega) (rd_i fun _ => j_bind zT zV (zb y3 p3 (by omega)) fun s hs sV => ov_i (by omega) (by omega) (ih _ _ _ ⟨rfl, by omega, zr.tr (hs.w (by decide) (by decide)), sV, fun i i0 i1 => by rw [hs.a 43 (by decide)]; exact hs.up (zb i i0 i1)⟩ (by omega))))))
abbrev jnS : List Nat := [29, 32]
abbrev jnR : List Nat := [27, 28, 29, 30, 46, 47, 48, 49]
theorem j_join {u : iST} {c x : Int} {G : Int → Prop} {Q : iST → Prop} (hT : RT u) (hC : CV G u) (c0 : 0 ≤ c) (c1 : c < 408) (hx : x < u.1 29) (hq : ∀ v, RG jnS jnR u v → CV G v → v.2.1 48 = u.2.1 48 → Q v) : v_10_join c x Q u := by
  unfold v_10_join
  refine br_i (fun _ => hq u (RG.rf hT) hC rfl) fun _ => rd_i fun _ => j_sizeOf hT fun s _ _ => j_insert hT hC c0 c1 hx fun b v hb hv vC v48 => br_i (fun _ => hq v (hv.w (by decide) (by decide)) vC v48) fun _ => j_blame hv.1 (by decide) fun z hz _ => hq z ((hv.w (by decide) (by decide)).tr (hz.w (by decide) (by decide))) (vC.rg hz (by decide) (by decide)) ((hz.a 48 (by decide)).trans v48)
