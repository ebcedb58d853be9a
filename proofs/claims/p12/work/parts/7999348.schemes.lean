/-! the class: paths, hints, and the clauses made of them -/
abbrev wkS : List Nat := [4, 5, 6, 7, 8, 9, 10, 11, 12, 13, 14, 15, 16, 17, 18, 19, 20, 21, 22, 23, 24, 25, 26, 27, 28, 29, 30, 31, 32, 33, 34, 35, 36, 39, 40, 41, 42, 43, 44, 45, 46, 47, 48, 49, 50]
abbrev wkR : List Nat := [10, 11, 12, 13, 16, 17, 18, 19, 20, 21, 22, 23, 24, 25, 26, 27, 28, 29, 30, 31, 32, 33, 34, 35, 36, 37, 38, 39, 40, 41, 42, 43, 44, 45, 46, 47, 48, 49, 51, 52, 53, 54, 55, 56, 57]
theorem WK.go {u v : iST} {S R : List Nat} (h : WK u) (g : RG S R u v) (h1 : ∀ k ∈ S, k ∈ wkS) (h2 : ∀ k ∈ R, k ∈ wkR) (hs : SL v) (h39 : 0 ≤ v.1 39 ∧ v.1 39 ≤ 256) : WK v := by
  have g : RG wkS wkR u v := g.w h1 h2
  exact ⟨g.1, h.2.1.rg h.1 g (by decide) (by decide) (by decide) (by decide) (by decide), by rw [g.s 37 (by decide)]; exact h.2.2.1, by rw [g.s 38 (by decide)]; exact h.2.2.2.1, h.2.2.2.2.1.keep (g.s 1 (by decide)) g.2.1.1 (fun k hk => g.a k (by revert hk; revert k; decide)), hs, h39⟩
theorem WK.k {u v : iST} {S R : List Nat} (h : WK u) (g : RG S R u v) (h1 : ∀ k ∈ S, k ∈ wkS) (h2 : ∀ k ∈ R, k ∈ wkR) (h39 : 39 ∉ S) (h54 : 54 ∉ R) : WK v := h.go g h1 h2 (h.2.2.2.2.2.1.keep (g.a 54 h54)) (by rw [g.s 39 h39]; exact h.2.2.2.2.2.2)
theorem WK.tm {u v : iST} (h : WK u) (g : RG tmS tmR u v) (hV : BV v) : WK v := h.go g (by decide) (by decide) (h.2.2.2.2.2.1.keep (g.a 54 (by decide))) ⟨hV.1, hV.2.1⟩
abbrev shS : List Nat := [13, 29, 32, 33, 34, 35, 39]
abbrev shR : List Nat := [27, 28, 29, 30, 31, 32, 33, 34, 35, 36, 37, 38, 39, 40, 41, 42, 43, 46, 47, 48, 49]
/-- within the making of clauses, begun in u0; G: the clauses that are valid -/
def SH (G : Int → Prop) (u0 u : iST) : Prop := RG shS shR u0 u ∧ WK u ∧ CV G u ∧ (0 ≤ u.1 33 ∧ u.1 33 ≤ 64) ∧ (0 ≤ u.1 13 ∧ u.1 13 ≤ 120)
theorem SH.T {G : Int → Prop} {u0 u : iST} (h : SH G u0 u) : RT u := h.1.1
theorem SH.go {G : Int → Prop} {u0 u v : iST} {S R : List Nat} (h : SH G u0 u) (g : RG S R u v) (h1 : ∀ k ∈ S, k ∈ shS) (h2 : ∀ k ∈ R, k ∈ shR) (hC : CV G v) (h33 : 0 ≤ v.1 33 ∧ v.1 33 ≤ 64) (h13 : 0 ≤ v.1 13 ∧ v.1 13 ≤ 120) (h39 : 0 ≤ v.1 39 ∧ v.1 39 ≤ 256) : SH G u0 v :=
  have g : RG shS shR u v := g.w h1 h2
  ⟨h.1.tr g, h.2.1.go g (by decide) (by decide) (h.2.1.2.2.2.2.2.1.keep (g.a 54 (by decide))) h39, hC, h33, h13⟩
theorem SH.tm {G : Int → Prop} {u0 u v : iST} (h : SH G u0 u) (g : RG tmS tmR u v) (hV : BV v) : SH G u0 v := h.go g (by decide) (by decide) (h.2.2.1.rg g (by decide) (by decide)) (by rw [g.s 33 (by decide)]; exact h.2.2.2.1) (by rw [g.s 13 (by decide)]; exact h.2.2.2.2) ⟨hV.1, hV.2.1⟩
theorem SH.rb {G : Int → Prop} {u0 u v : iST} (h : SH G u0 u) (g : RG mS rbR u v) : SH G u0 v := h.go g (by decide) (by decide) (h.2.2.1.rg g (by decide) (by decide)) (by rw [g.s 33 (by decide)]; exact h.2.2.2.1) (by rw [g.s 13 (by decide)]; exact h.2.2.2.2) (by rw [g.s 39 (by decide)]; exact h.2.1.2.2.2.2.2.2)
theorem SH.rm {G : Int → Prop} {u0 u v : iST} (h : SH G u0 u) (g : RM u v) : SH G u0 v := h.rb (g.w (by decide) (by decide))
theorem SH.lp {G : Int → Prop} {u0 u v : iST} (h : SH G u0 u) (g : RG [] [41, 43] u v) : SH G u0 v := h.go g (by decide) (by decide) (h.2.2.1.rg g (by decide) (by decide)) (by rw [g.s 33 (by decide)]; exact h.2.2.2.1) (by rw [g.s 13 (by decide)]; exact h.2.2.2.2) (by rw [g.s 39 (by decide)]; exact h.2.1.2.2.2.2.2.2)
theorem SH.jn {G : Int → Prop} {u0 u v : iST} (h : SH G u0 u) (g : RG jnS jnR u v) (hC : CV G v) : SH G u0 v := h.go g (by decide) (by decide) hC (by rw [g.s 33 (by decide)]; exact h.2.2.2.1) (by rw [g.s 13 (by decide)]; exact h.2.2.2.2) (by rw [g.s 39 (by decide)]; exact h.2.1.2.2.2.2.2.2)
theorem SH.cl {G G' : Int → Prop} {u0 u v : iST} (h : SH G u0 u) (g : RG [] cRw u v) (hC : CV G' v) : SH G' u0 v :=
  ⟨h.1.tr (g.w (by decide) (by decide)), h.2.1.k g (by decide) (by decide) (by decide) (by decide), hC, by rw [g.s 33 (by decide)]; exact h.2.2.2.1, by rw [g.s 13 (by decide)]; exact h.2.2.2.2⟩
theorem SH.less {G G' : Int → Prop} {u0 u : iST} (h : SH G u0 u) (hg : ∀ c, G' c → G c) : SH G' u0 u := ⟨h.1, h.2.1, h.2.2.1.less hg, h.2.2.2⟩
/-! paths -/
abbrev ptS : List Nat := [33, 34]
abbrev ptR : List Nat := [31, 32]
theorem j_goTo90 {u v : iST} {x : Int} {Q : Int → iST → Prop} (hR : RG ptS ptR u v) (h33 : 0 ≤ v.1 33 ∧ v.1 33 ≤ 64) (hx : x < v.1 29) (hq : ∀ b w, bz b → RG ptS ptR u w → (0 ≤ w.1 33 ∧ w.1 33 ≤ 64) → (b ≠ 0 → w.1 34 < w.1 29) → Q b w) : v_8_goToPath_90 Q x v := by
  unfold v_8_goToPath_90
  refine lf1 (B := fun R x2 u => v_8_goToPath_90b R Q x2 u) (fun x2 w => RG ptS ptR u w ∧ (0 ≤ w.1 33 ∧ w.1 33 ≤ 64) ∧ x2 < w.1 29) (fun _ w => (64 - w.1 33).toNat) ?_ ⟨hR, h33, hx⟩
  intro x2 w hI R ih
  obtain ⟨wr, w33, h2⟩ := hI
  have k154 : v_8_goToPath_154 Q x2 w := by
    unfold v_8_goToPath_154
    refine sw_e fun z e => zt_1 (hq 1 z (Or.inr rfl) ?_ ?_ (fun _ => ?_))
    · rw [e]; exact wr.I _ (by decide) (by decide) (by decide)
    · rw [e]; exact w33
    · rw [e]; exact h2
  unfold v_8_goToPath_90b
  refine j_isCallOf wr.1 (fun _ _ => br_n (by decide) (rd_i fun _ => br_i (fun _ => k154) fun hlt => rd_i fun _ => bd_i w33.1 (by omega) (sw_e fun a e => rd_i fun _ => ?_))) fun _ => br_y rfl k154
  have a1 : a.1 = w.1 := by rw [e]; rfl
  rw [a1]
  refine zt_0 (bd_i w33.1 (by omega) (sw_e fun b e2 => rd_i fun _ => ?_))
  have b1 : b.1 = w.1 := by rw [e2, ← a1]; rfl
  rw [b1]
  refine ov_i (by omega) (by omega) (sw_e fun c e3 => ?_)
  have cr : RG ptS ptR u c := by
    rw [e3, e2, e]
    exact ((wr.A _ _ (by decide) (by decide)).A _ _ (by decide) (by decide)).I _ (by decide) (by decide) (by decide)
  have c33 : c.1 33 = w.1 33 + 1 := by rw [e3]; rfl
  clear e e2 e3
  exact j_item cr.1 (by decide) fun d _ d1 => ih _ _ ⟨cr, by omega, d1⟩ (by omega)
theorem j_goToPath {u : iST} {x : Int} {Q : Int → iST → Prop} (hT : RT u) (h33 : 0 ≤ u.1 33 ∧ u.1 33 ≤ 64) (hx : x < u.1 29) (hq : ∀ b w, bz b → RG ptS ptR u w → (0 ≤ w.1 33 ∧ w.1 33 ≤ 64) → (b ≠ 0 → w.1 34 < w.1 29) → Q b w) : v_8_goToPath x Q u := by
  unfold v_8_goToPath
  refine br_i (fun _ => ?_) fun _ => sw_e fun a e => ?_
  · unfold v_8_goToPath_15
    refine lf0 (B := fun R u => v_8_goToPath_15b R Q u) (fun w => RG ptS ptR u w ∧ (0 ≤ w.1 33 ∧ w.1 33 ≤ 64)) (fun w => (w.1 33).toNat) ?_ ⟨RG.rf hT, h33⟩
    intro w hI R ih
    obtain ⟨wr, w33⟩ := hI
    have k49 : v_8_goToPath_49 Q w := by
      unfold v_8_goToPath_49
      refine rd_i fun _ => br_i (fun h => rd_i fun _ => ov_i (by omega) (by omega) (zt_1 (bd_i (by omega) (by omega) (sw_e fun a e => rd_i fun _ => ?_)))) fun _ => zt_0 (hq 0 w (Or.inl rfl) wr w33 (fun z => absurd rfl z))
      have a1 : a.1 = w.1 := by rw [e]; rfl
      have ar : RG ptS ptR u a := by rw [e]; exact wr.A _ _ (by decide) (by decide)
      clear e
      rw [a1]
      exact ov_i (by omega) (by omega) (bd_i (by omega) (by omega) (rd_i fun _ => j_item ar.1 (by decide) fun b _ b1 => j_goTo90 ar (by rw [a1]; exact w33) b1 hq))
    unfold v_8_goToPath_15b
    refine rd_i fun _ => br_i (fun _ => k49) fun h => rd_i fun _ => ov_i (by omega) (by omega) (bd_i (by omega) (by omega) (rz_i fun _ => br_i (fun _ => k49) fun _ => rd_i fun _ => ov_i (by omega) (by omega) (sw_e fun a e => ih a ⟨?_, ?_⟩ ?_)))
    · rw [e]; exact wr.I _ (by decide) (by decide) (by decide)
    · have : a.1 33 = w.1 33 - 1 := by rw [e]; rfl
      omega
    · have : a.1 33 = w.1 33 - 1 := by rw [e]; rfl
      omega
  · have ar : RG ptS ptR u a := by rw [e]; exact (RG.rf hT).I _ (by decide) (by decide) (by decide)
    have a33 : a.1 33 = 0 := by rw [e]; rfl
    exact j_goTo90 ar (by omega) (ar.up hx) hq
theorem SH.pt {G : Int → Prop} {u0 u v : iST} (h : SH G u0 u) (g : RG ptS ptR u v) (h33 : 0 ≤ v.1 33 ∧ v.1 33 ≤ 64) : SH G u0 v := h.go g (by decide) (by decide) (h.2.2.1.rg g (by decide) (by decide)) h33 (by rw [g.s 13 (by decide)]; exact h.2.2.2.2) (by rw [g.s 39 (by decide)]; exact h.2.1.2.2.2.2.2.2)
theorem j_countPaths {u : iST} {x : Int} {Q : Int → iST → Prop} (hT : RT u) (h33 : 0 ≤ u.1 33 ∧ u.1 33 ≤ 64) (hx : x < u.1 29) (hq : ∀ n w, 0 ≤ n → n ≤ 1000000 → RG ptS ptR u w → (0 ≤ w.1 33 ∧ w.1 33 ≤ 64) → Q n w) : v_8_countPaths x Q u := by
  unfold v_8_countPaths
  refine j_goToPath hT h33 hx fun b v hb hv v33 _ => ?_
  unfold v_8_countPaths_8
  refine lf2 (B := fun R x2 x3 u => v_8_countPaths_8b R Q x2 x3 u) (fun x2 x3 w => 0 ≤ x2 ∧ x2 ≤ 1000000 ∧ RG ptS ptR u w ∧ (0 ≤ w.1 33 ∧ w.1 33 ≤ 64)) (fun x2 _ _ => (1000000 - x2).toNat) ?_ ⟨Int.le_refl _, by decide, hv, v33⟩
  intro x2 x3 w hI R ih
  obtain ⟨h0, h1, wr, w33⟩ := hI
  have w44 := wr.1.1.1
  unfold v_8_countPaths_8b
  exact br_i (fun _ => hq _ w h0 h1 wr w33) fun hlt => br_i (fun _ => hq _ w h0 h1 wr w33) fun _ => ov_i (by omega) (by omega) (j_goToPath wr.1 w33 (by omega) fun b z hb hz z33 _ => ih _ _ _ ⟨by omega, by omega, wr.tr hz, z33⟩ (by omega))
abbrev lcS : List Nat := [35]
abbrev lcR : List Nat := [33, 41, 43]
theorem j_listCalls {u : iST} {x : Int} {Q : iST → Prop} (hT : RT u) (h34 : u.1 34 < u.1 29) (hq : ∀ w, RG lcS lcR u w → (0 ≤ w.1 35 ∧ w.1 35 ≤ 128) → Q w) : v_8_listCalls x Q u := by
  unfold v_8_listCalls
  refine rd_i fun _ => j_listParts hT h34 fun n v n0 n1 hv _ => sw_e fun a e => ?_
  have ar : RG lcS lcR u a := by rw [e]; exact (hv.w (by decide) (by decide)).I _ (by decide) (by decide) (by decide)
  have a35 : a.1 35 = 0 := by rw [e]; rfl
  clear e
  unfold v_8_listCalls_19
  refine lf3 (B := fun R x1 x2 x3 u => v_8_listCalls_19b R Q x1 x2 x3 u) (fun x1 x2 x3 w => x = x1 ∧ n = x2 ∧ 0 ≤ x3 ∧ RG lcS lcR u w ∧ (0 ≤ w.1 35 ∧ w.1 35 ≤ 128)) (fun _ _ x3 _ => (128 - x3).toNat) ?_ ⟨rfl, rfl, Int.le_refl _, ar, by omega⟩
  intro x1 x2 x3 w hI R ih
  obtain ⟨rfl, rfl, h3, wr, w35⟩ := hI
  unfold v_8_listCalls_19b
  refine br_i (fun _ => hq w wr w35) fun hlt => ?_
  have nx : ∀ z, RG lcS lcR u z → (0 ≤ z.1 35 ∧ z.1 35 ≤ 128) → ov (x3 + 1) (R x n (x3 + 1) z) := fun z h1 h2 => ov_i (by omega) (by omega) (ih _ _ _ _ ⟨rfl, rfl, by omega, h1, h2⟩ (by omega))
  refine bd_i h3 (by omega) (rd_i fun _ => j_isCallOf wr.1 (fun _ _ => br_n (by decide) (rd_i fun _ => br_i (fun _ => nx w wr w35) fun h128 => rd_i fun _ => bd_i h3 (by omega) (rd_i fun _ => bd_i w35.1 (by omega) (sw_e fun a e => rd_i fun _ => ?_)))) fun _ => br_y rfl (nx w wr w35))
  have a1 : a.1 = w.1 := by rw [e]; rfl
  rw [a1]
  refine ov_i (by omega) (by omega) (sw_e fun b e2 => nx b ?_ ?_)
  · rw [e2, e]; exact (wr.A _ _ (by decide) (by decide)).I _ (by decide) (by decide) (by decide)
  · have : b.1 35 = w.1 35 + 1 := by rw [e2]; rfl
    omega
theorem SH.lc {G : Int → Prop} {u0 u v : iST} (h : SH G u0 u) (g : RG lcS lcR u v) : SH G u0 v := h.go g (by decide) (by decide) (h.2.2.1.rg g (by decide) (by decide)) (by rw [g.s 33 (by decide)]; exact h.2.2.2.1) (by rw [g.s 13 (by decide)]; exact h.2.2.2.2) (by rw [g.s 39 (by decide)]; exact h.2.1.2.2.2.2.2.2)
abbrev ifS : List Nat := [33, 34, 35]
abbrev ifR : List Nat := [31, 32, 33, 41, 43]
theorem j_isFlat {u : iST} {x y : Int} {Q : Int → iST → Prop} (hT : RT u) (h33 : 0 ≤ u.1 33 ∧ u.1 33 ≤ 64) (hy : y < u.1 29) (hq : ∀ b w, bz b → RG ifS ifR u w → (0 ≤ w.1 33 ∧ w.1 33 ≤ 64) → Q b w) : v_8_isFlat x y Q u := by
  unfold v_8_isFlat
  refine j_goToPath hT h33 hy fun b v hb hv v33 v34 => ?_
  unfold v_8_isFlat_9
  refine lf3 (B := fun R x1 x3 x4 u => v_8_isFlat_9b R Q x1 x3 x4 u) (fun x1 x3 x4 w => x = x1 ∧ 0 ≤ x4 ∧ RG ifS ifR u w ∧ (0 ≤ w.1 33 ∧ w.1 33 ≤ 64) ∧ (x3 ≠ 0 → w.1 34 < w.1 29)) (fun _ _ x4 _ => (1000000 - x4).toNat) ?_ ⟨rfl, Int.le_refl _, hv.w (by decide) (by decide), v33, v34⟩
  intro x1 x3 x4 w hI R ih
  obtain ⟨rfl, h4, wr, w33, w34⟩ := hI
  unfold v_8_isFlat_9b
  refine br_i (fun _ => zt_1 (hq 1 w (Or.inr rfl) wr w33)) fun hlt => br_i (fun _ => zt_1 (hq 1 w (Or.inr rfl) wr w33)) fun h3 => ?_
  unfold v_8_isFlat_23
  refine lf3 (B := fun R23 x1 x4 x5 u => v_8_isFlat_23b R R23 Q x1 x4 x5 u) (fun x1 y4 x5 z => x = x1 ∧ x4 = y4 ∧ 0 ≤ x5 ∧ RG ifS ifR u z ∧ (0 ≤ z.1 33 ∧ z.1 33 ≤ 64) ∧ z.1 34 < z.1 29) (fun _ _ x5 _ => (64 - x5).toNat) ?_ ⟨rfl, rfl, Int.le_refl _, wr, w33, w34 h3⟩
  intro x1 y4 x5 z hI2 R2 ih2
  obtain ⟨rfl, rfl, h5, zr, z33, z34⟩ := hI2
  unfold v_8_isFlat_23b
  refine rd_i fun _ => br_i (fun _ => j_listCalls zr.1 z34 fun a ha a35 => ?_) fun hlt2 => bd_i h5 (by omega) (rd_i fun _ => j_item zr.1 (by decide) fun c _ c1 => j_hasCallOf zr.1 c1 fun b2 d hb2 hd => ?_)
  · unfold v_8_isFlat_74
    refine lf3 (B := fun R74 x1 x4 x5 u => v_8_isFlat_74b R R74 Q x1 x4 x5 u) (fun x1 y4 y5 s => x = x1 ∧ x4 = y4 ∧ 0 ≤ y5 ∧ RG ifS ifR u s ∧ (0 ≤ s.1 33 ∧ s.1 33 ≤ 64) ∧ (0 ≤ s.1 35 ∧ s.1 35 ≤ 128)) (fun _ _ y5 _ => (128 - y5).toNat) ?_ ⟨rfl, rfl, Int.le_refl _, zr.tr (ha.w (by decide) (by decide)), by rw [ha.s 33 (by decide)]; exact z33, a35⟩
    intro x1 y4 y5 s hI3 R3 ih3
    obtain ⟨rfl, rfl, h55, sr, s33, s35⟩ := hI3
    have s44 := sr.1.1.1
    unfold v_8_isFlat_74b
    refine rd_i fun _ => br_i (fun _ => j_goToPath sr.1 s33 (by omega) fun b2 d hb2 hd d33 d34 => ov_i (by omega) (by omega) (ih _ _ _ _ ⟨rfl, by omega, sr.tr (hd.w (by decide) (by decide)), d33, d34⟩ (by omega))) fun hlt3 => bd_i h55 (by omega) (rd_i fun _ => j_right sr.1 ?_)
    unfold v_8_isFlat_99
    refine lf4 (B := fun R99 x1 x4 x5 x6 u => v_8_isFlat_99b R R3 R99 Q x1 x4 x5 x6 u) (fun x1 y4 z5 x6 t => x = x1 ∧ x4 = y4 ∧ y5 = z5 ∧ RG ifS ifR u t ∧ (0 ≤ t.1 33 ∧ t.1 33 ≤ 64) ∧ (0 ≤ t.1 35 ∧ t.1 35 ≤ 128)) (fun _ _ _ x6 _ => x6.toNat) ?_ ⟨rfl, rfl, rfl, sr, s33, s35⟩
    intro x1 y4 z5 x6 t hI4 R4 ih4
    obtain ⟨rfl, rfl, rfl, tr, t33, t35⟩ := hI4
    unfold v_8_isFlat_99b
    refine j_isPair tr.1 (fun hp => br_n (by decide) (j_left tr.1 (j_hasCallOf tr.1 (eL_r tr.1 _).2.1 fun b2 d hb2 hd => ?_))) fun _ => br_y rfl (ov_i (by omega) (by omega) (ih3 _ _ _ _ ⟨rfl, rfl, by omega, tr, t33, t35⟩ (by omega)))
    have dr := tr.tr (hd.w (S' := ifS) (R' := ifR) (by decide) (by decide))
    have d33 : 0 ≤ d.1 33 ∧ d.1 33 ≤ 64 := by rw [hd.s 33 (by decide)]; exact t33
    refine br_i (fun _ => j_right dr.1 (ih4 _ _ _ _ _ ⟨rfl, rfl, rfl, dr, d33, by rw [hd.s 35 (by decide)]; exact t35⟩ ?_)) fun _ => zt_0 (hq 0 d (Or.inl rfl) dr d33)
    have q := eR_r dr.1 x6
    have := q.2.2 (hd.2.1.prx hp)
    omega
  · have dr := zr.tr (hd.w (S' := ifS) (R' := ifR) (by decide) (by decide))
    have d33 : 0 ≤ d.1 33 ∧ d.1 33 ≤ 64 := by rw [hd.s 33 (by decide)]; exact z33
    exact br_i (fun _ => ov_i (by omega) (by omega) (ih2 _ _ _ _ ⟨rfl, rfl, by omega, dr, d33, by rw [hd.s 34 (by decide)]; exact hd.up z34⟩ (by omega))) fun _ => zt_0 (hq 0 d (Or.inl rfl) dr d33)
/-! clauses -/
theorem j_addRulers {u0 u : iST} {c x y : Int} {G : Int → Prop} {Q : iST → Prop} (h : SH G u0 u) (c0 : 0 ≤ c) (c1 : c < 408) (hq : ∀ v, SH G u0 v → v.1 33 = u.1 33 → v.1 34 = u.1 34 → v.1 35 = u.1 35 → v.1 13 = u.1 13 → u.1 29 ≤ v.1 29 → Q v) : v_8_addRulers c x y Q u := by
  unfold v_8_addRulers
  refine j_bindRow h.T fun a ha aV => ?_
  have ah := h.tm (ha.w (by decide) (by decide)) aV
  unfold v_8_addRulers_12
  refine lf2 (B := fun R x1 x4 u => v_8_addRulers_12b R Q x1 x4 u) (fun x1 x4 v => c = x1 ∧ 0 ≤ x4 ∧ SH G u0 v ∧ BV v ∧ v.1 33 = u.1 33 ∧ v.1 34 = u.1 34 ∧ v.1 35 = u.1 35 ∧ v.1 13 = u.1 13 ∧ u.1 29 ≤ v.1 29) (fun _ x4 _ => (64 - x4).toNat) ?_ ⟨rfl, Int.le_refl _, ah, aV, ha.s 33 (by decide), ha.s 34 (by decide), ha.s 35 (by decide), ha.s 13 (by decide), ha.2.1.1⟩
  intro x1 x4 v hI R ih
  obtain ⟨rfl, h4, vh, vV, v33, v34, v35, v13, v29⟩ := hI
  have d := vh.2.2.2.1
  unfold v_8_addRulers_12b
  refine rd_i fun _ => br_i (fun _ => hq v vh v33 v34 v35 v13 v29) fun hlt => rd_i fun _ => br_i (fun _ => hq v vh v33 v34 v35 v13 v29) fun _ => bd_i h4 (by omega) (rd_i fun _ => j_item vh.T (by decide) fun b _ b1 => j_fill vh.T vh.2.1.rd b1 vV fun t w hw ht => bd_i h4 (by omega) (rz_i fun _ => ?_))
  have k80 : ∀ z y, SH G u0 z → RG mS rbR v z → y < z.1 29 → v_8_addRulers_80 R Q c x4 y z := by
    intro z y zh zr hy
    unfold v_8_addRulers_80
    refine j_negated zh.T hy fun s p hp hs => j_join hp.1 (zh.rm hp).2.2.1 c0 c1 hs fun q hq2 qC _ => ov_i (by omega) (by omega) (ih _ _ _ ⟨rfl, by omega, (zh.rm hp).jn hq2 qC, ?_, ?_, ?_, ?_, ?_, ?_⟩ (by omega))
    · exact ((vV.rg zr (by decide) (by decide)).rg hp (by decide) (by decide)).rg hq2 (by decide) (by decide)
    · rw [hq2.s 33 (by decide), hp.s 33 (by decide), zr.s 33 (by decide)]; exact v33
    · rw [hq2.s 34 (by decide), hp.s 34 (by decide), zr.s 34 (by decide)]; exact v34
    · rw [hq2.s 35 (by decide), hp.s 35 (by decide), zr.s 35 (by decide)]; exact v35
    · rw [hq2.s 13 (by decide), hp.s 13 (by decide), zr.s 13 (by decide)]; exact v13
    · have := zr.2.1.1
      have := hp.2.1.1
      have := hq2.2.1.1
      omega
  exact br_i (fun _ => k80 w t (vh.rb hw) hw ht) fun _ => j_negated hw.1 ht fun s p hp hs => k80 p s ((vh.rb hw).rm hp) (hw.tr (hp.w (by decide) (by decide))) hs
/-- a clause is given -/
theorem j_newClause {u0 u : iST} {E : Int → Prop} {Q : Int → iST → Prop} (h : SH (fun c => c < u.1 13 ∨ E c) u0 u) (hq : ∀ c v, 0 ≤ c → c < 408 → SH (fun c => c < v.1 13 ∨ E c) u0 v → v.1 33 = u.1 33 → v.1 34 = u.1 34 → v.1 35 = u.1 35 → u.1 29 ≤ v.1 29 → Q c v) : v_4_newClause Q u := by
  have h13 := h.2.2.2.2
  unfold v_4_newClause
  refine rd_i fun _ => br_i (fun hlt => rd_i fun _ => bd_i h13.1 hlt (j_clear h.T h.2.2.1 fun v hv vC _ => rd_i fun _ => ?_)) fun _ => j_blame h.T (by decide) fun v hv _ => hq 150 v (by decide) (by decide) ?_ (hv.s 33 (by decide)) (hv.s 34 (by decide)) (hv.s 35 (by decide)) hv.2.1.1
  · have v13 : v.1 13 = u.1 13 := hv.s 13 (by decide)
    rw [v13]
    have vh := h.cl hv vC
    refine ov_i (by omega) (by omega) (sw_e fun w e => ?_)
    have w13 : w.1 13 = u.1 13 + 1 := by rw [e]; rfl
    have wr : RG [13] [] v w := by rw [e]; exact (RG.rf hv.1).I _ (by decide) (by decide) (by decide)
    clear e
    refine hq _ w h13.1 (by omega) ((vh.less (G' := fun c => c < w.1 13 ∨ E c) ?_).go wr (by decide) (by decide) ?_ ?_ (by omega) ?_) ?_ ?_ ?_ ?_
    · intro c hc
      rcases hc with hc | hc
      · by_cases q : c = u.1 13
        · exact Or.inr q
        · exact Or.inl (Or.inl (by omega))
      · exact Or.inl (Or.inr hc)
    · refine CV.rg (vC.less ?_) wr (by decide) (by decide)
      intro c hc
      rcases hc with hc | hc
      · by_cases q : c = u.1 13
        · exact Or.inr q
        · exact Or.inl (Or.inl (by omega))
      · exact Or.inl (Or.inr hc)
    · rw [wr.s 33 (by decide)]; exact vh.2.2.2.1
    · rw [wr.s 39 (by decide)]; exact vh.2.1.2.2.2.2.2.2
    · rw [wr.s 33 (by decide), hv.s 33 (by decide)]
    · rw [wr.s 34 (by decide), hv.s 34 (by decide)]
    · rw [wr.s 35 (by decide), hv.s 35 (by decide)]
    · have := wr.2.1.1
      have := hv.2.1.1
      omega
  · have v13 : v.1 13 = u.1 13 := hv.s 13 (by decide)
    rw [v13]
    exact h.rm hv
