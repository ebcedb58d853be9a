/-! the class: proving -/
abbrev pvS : List Nat := [4, 5, 6, 7, 8, 9, 14, 15, 23, 24, 26, 28, 29, 31, 32, 39]
abbrev pvR : List Nat := [16, 17, 18, 19, 20, 21, 22, 27, 28, 29, 30, 35, 36, 37, 38, 39, 40, 41, 42, 43, 46, 47, 48, 49, 51, 52, 54, 55, 56]
abbrev pkS : List Nat := [14, 15, 28, 29, 32]
abbrev pkR : List Nat := [27, 28, 29, 30, 46, 47, 48, 49]
def PS (u0 u : iST) : Prop := RG pvS pvR u0 u ∧ WK u ∧ (u.1 32 = 0 ∨ u.1 16 ≠ 0 → NF u) ∧ (0 ≤ u.1 25 ∧ u.1 25 ≤ u.1 1) ∧ (0 ≤ u.1 31 ∧ u.1 31 ≤ u.1 30) ∧ (u.1 16 = 0 → u.1 27 = 0 → u.1 30 ≤ 1000) ∧ (0 ≤ u.1 13 ∧ u.1 13 ≤ 120) ∧ (0 ≤ u.1 14 ∧ u.1 14 ≤ 10) ∧ (0 ≤ u.1 15 ∧ u.1 15 ≤ 20)
theorem PS.T {u0 u : iST} (h : PS u0 u) : RT u := h.1.1
theorem PS.k {u0 u v : iST} {S R : List Nat} (h : PS u0 u) (g : RG S R u v) (h1 : ∀ k ∈ S, k ∈ pkS) (h2 : ∀ k ∈ R, k ∈ pkR) (h14 : 0 ≤ v.1 14 ∧ v.1 14 ≤ 10) (h15 : 0 ≤ v.1 15 ∧ v.1 15 ≤ 20) : PS u0 v := by
  have g : RG pkS pkR u v := g.w h1 h2
  obtain ⟨a, b, c, d, e, f, i, j, k⟩ := h
  refine ⟨a.tr (g.w (by decide) (by decide)), b.k g (by decide) (by decide) (by decide) (by decide), fun z => ?_, by rw [g.s 25 (by decide), g.s 1 (by decide)]; exact d, by rw [g.s 31 (by decide), g.s 30 (by decide)]; exact e, by rw [g.s 16 (by decide), g.s 27 (by decide), g.s 30 (by decide)]; exact f, by rw [g.s 13 (by decide)]; exact i, h14, h15⟩
  rw [g.s 16 (by decide)] at z
  exact (c (z.imp g.2.2.2 id)).keep (g.s 26 (by decide)) g.2.1.1 (g.a 52 (by decide))
theorem PS.rm {u0 u v : iST} (h : PS u0 u) (g : RM u v) : PS u0 v := h.k g (by decide) (by decide) (by rw [g.s 14 (by decide)]; exact h.2.2.2.2.2.2.2.1) (by rw [g.s 15 (by decide)]; exact h.2.2.2.2.2.2.2.2)
theorem PS.jn {u0 u v : iST} (h : PS u0 u) (g : RG jnS jnR u v) : PS u0 v := h.k g (by decide) (by decide) (by rw [g.s 14 (by decide)]; exact h.2.2.2.2.2.2.2.1) (by rw [g.s 15 (by decide)]; exact h.2.2.2.2.2.2.2.2)
theorem PS.cl {u0 u v : iST} (h : PS u0 u) (g : RG [] cRw u v) : PS u0 v := h.k g (by decide) (by decide) (by rw [g.s 14 (by decide)]; exact h.2.2.2.2.2.2.2.1) (by rw [g.s 15 (by decide)]; exact h.2.2.2.2.2.2.2.2)
theorem PS.rc {u0 u v : iST} (h : PS u0 u) (g : RG [28] [] u v) : PS u0 v := h.k g (by decide) (by decide) (by rw [g.s 14 (by decide)]; exact h.2.2.2.2.2.2.2.1) (by rw [g.s 15 (by decide)]; exact h.2.2.2.2.2.2.2.2)
/-- the valid clauses while proving -/
def VG (E : Int → Prop) (u : iST) (c : Int) : Prop := c < u.1 13 ∨ (120 ≤ c ∧ c < 120 + u.1 14) ∨ (130 ≤ c ∧ c < 130 + u.1 15) ∨ E c
theorem VG.eq {E : Int → Prop} {u v : iST} (h13 : v.1 13 = u.1 13) (h14 : v.1 14 = u.1 14) (h15 : v.1 15 = u.1 15) : VG E v = VG E u := by
  funext c
  unfold VG
  rw [h13, h14, h15]
theorem j_isPlain {u : iST} {c : Int} {G : Int → Prop} {Q : Int → iST → Prop} (hT : RT u) (hC : CV G u) (c0 : 0 ≤ c) (c1 : c < 408) (hq : ∀ b, bz b → Q b u) : v_4_isPlain c Q u := by
  have C := (hC c c0 c1).1
  unfold v_4_isPlain v_4_isPlain_2
  refine lf2 (B := fun R x1 x2 u => v_4_isPlain_2b R Q x1 x2 u) (fun x1 x2 v => c = x1 ∧ 0 ≤ x2 ∧ u = v) (fun _ x2 _ => (30 - x2).toNat) ?_ ⟨rfl, Int.le_refl _, rfl⟩
  intro x1 x2 v hI R ih
  obtain ⟨rfl, h2, rfl⟩ := hI
  have k34 : ∀ y, x2 < 30 → v_4_isPlain_34 R Q c x2 y u := by
    intro y hlt
    unfold v_4_isPlain_34 v_4_isPlain_37
    refine lf4 (B := fun R37 x1 x2 x3 x4 u => v_4_isPlain_37b R R37 Q x1 x2 x3 x4 u) (fun x1 y2 x3 x4 v => c = x1 ∧ x2 = y2 ∧ 0 ≤ x4 ∧ u = v) (fun _ _ _ x4 _ => (30 - x4).toNat) ?_ ⟨rfl, rfl, Int.le_refl _, rfl⟩
    intro x1 y2 x3 x4 v hI2 R2 ih2
    obtain ⟨rfl, rfl, h4, rfl⟩ := hI2
    unfold v_4_isPlain_37b
    exact rd_i fun _ => br_i (fun _ => ov_i (by omega) (by omega) (ih _ _ _ ⟨rfl, by omega, rfl⟩ (by omega))) fun hlt4 => bd_i h4 (by omega) (rd_i fun _ => j_isNegation hT fun b _ => br_i (fun _ => ov_i (by omega) (by omega) (ih2 _ _ _ _ _ ⟨rfl, rfl, by omega, rfl⟩ (by omega))) fun _ => zt_1 (hq 1 (Or.inr rfl)))
  unfold v_4_isPlain_2b
  exact rd_i fun _ => br_i (fun _ => zt_0 (hq 0 (Or.inl rfl))) fun hlt => bd_i h2 (by omega) (rd_i fun _ => br_i (fun _ => k34 _ (by omega)) fun _ => j_isConstant hT fun b _ _ => br_i (fun _ => k34 _ (by omega)) fun _ => zt_1 (hq 1 (Or.inr rfl)))
theorem j_rowOfOthers {u : iST} {c x : Int} {G : Int → Prop} {Q : Int → iST → Prop} (hT : RT u) (hC : CV G u) (c0 : 0 ≤ c) (c1 : c < 408) (hc : G c) (hq : ∀ t v, RM u v → t < v.1 29 → Q t v) : v_4_rowOfOthers c x Q u := by
  have h44 := hT.1.1
  unfold v_4_rowOfOthers v_4_rowOfOthers_5
  refine lf4 (B := fun R x1 x2 x3 x4 u => v_4_rowOfOthers_5b R Q x1 x2 x3 x4 u) (fun x1 x2 x3 x4 v => c = x1 ∧ x = x2 ∧ 0 ≤ x4 ∧ RM u v ∧ x3 < v.1 29) (fun _ _ _ x4 _ => (30 - x4).toNat) ?_ ⟨rfl, rfl, Int.le_refl _, RG.rf hT, by omega⟩
  intro x1 x2 x3 x4 v hI R ih
  obtain ⟨rfl, rfl, h4, vr, h3⟩ := hI
  have vC : CV G v := hC.rg vr (by decide) (by decide)
  have C := vC c c0 c1
  unfold v_4_rowOfOthers_5b
  exact rd_i fun _ => br_i (fun _ => hq x3 v vr h3) fun hlt => rd_i fun _ => br_i (fun _ => hq x3 v vr h3) fun _ => br_i (fun _ => ov_i (by omega) (by omega) (ih _ _ _ _ _ ⟨rfl, rfl, by omega, vr, h3⟩ (by omega))) fun _ => bd_i h4 (by omega) (rd_i fun _ => j_negated vr.1 (C.2 hc x4 h4 (by omega)) fun t w hw ht => j_pair hw.1 ht (hw.up h3) fun s z hz s0 s1 _ => ov_i (by omega) (by omega) (ih _ _ _ _ _ ⟨rfl, rfl, by omega, (vr.tr hw).tr hz, s1⟩ (by omega)))
theorem j_stands {u : iST} {c p x : Int} {G : Int → Prop} {Q : Int → iST → Prop} (hT : RT u) (hC : CV G u) (c0 : 0 ≤ c) (c1 : c < 408) (p0 : 0 ≤ p) (p1 : p < 30) (hx : x < u.1 29) (hq : ∀ b v, bz b → RG [] cRw u v → CV G v → Q b v) : v_4_stands c p x Q u := by
  have k63 : ∀ v, RG [] cRw u v → CV G v → v_4_stands_63 Q c p x v := by
    intro v vr vC
    unfold v_4_stands_63
    exact j_sizeOf vr.1 fun s _ _ => j_insert vr.1 vC c0 c1 (vr.up hx) fun b w hb hw wC _ => zt_1 (hq 1 w (Or.inr rfl) (vr.tr hw) wC)
  have k43 : ∀ v y, RG [] cRw u v → CV G v → v_4_stands_43 Q c p x y v := by
    intro v y vr vC
    unfold v_4_stands_43
    exact br_i (fun _ => k63 v vr vC) fun _ => j_sizeOf vr.1 fun s _ _ => j_remove vr.1 vC c0 c1 fun w hw wC _ _ => k63 w (vr.tr hw) wC
  unfold v_4_stands
  exact bd_i p0 p1 (rd_i fun _ => j_sizeOf hT fun s _ _ => j_remove hT hC c0 c1 fun v hv vC _ _ => j_placeOf vC c0 c1 fun r _ _ _ => br_i (fun _ => zt_0 (hq 0 v (Or.inl rfl) hv vC)) fun _ => br_i (fun _ => k43 v _ hv vC) fun _ => br_i (fun _ => k43 v _ hv vC) fun _ => zt_0 (hq 0 v (Or.inl rfl) hv vC))
theorem j_fillSplit {u : iST} {c d p x y : Int} {G : Int → Prop} {Q : iST → Prop} (hT : RT u) (hC : CV G u) (c0 : 0 ≤ c) (c1 : c < 408) (d0 : 0 ≤ d) (d1 : d < 408) (hd : G d) (hx : x < u.1 29) (hy : y < u.1 29) (hq : ∀ v, RG jnS jnR u v → CV (fun z => G z ∨ z = c) v → Q v) : v_4_fillSplit c d p x y Q u := by
  unfold v_4_fillSplit
  refine j_clear hT hC fun a ha aC _ => ?_
  unfold v_4_fillSplit_7
  refine lf6 (B := fun R x1 x2 x3 x4 x5 x6 u => v_4_fillSplit_7b R Q x1 x2 x3 x4 x5 x6 u) (fun x1 x2 x3 x4 x5 x6 v => c = x1 ∧ d = x2 ∧ p = x3 ∧ x = x4 ∧ y = x5 ∧ 0 ≤ x6 ∧ RG jnS jnR u v ∧ CV (fun z => G z ∨ z = c) v) (fun _ _ _ _ _ x6 _ => (30 - x6).toNat) ?_ ⟨rfl, rfl, rfl, rfl, rfl, Int.le_refl _, ha.w (by decide) (by decide), aC⟩
  intro x1 x2 x3 x4 x5 x6 v hI R ih
  obtain ⟨rfl, rfl, rfl, rfl, rfl, h6, vr, vC⟩ := hI
  have D := vC d d0 d1
  have k76 : v_4_fillSplit_76 Q c d v := by
    unfold v_4_fillSplit_76
    refine rd_i fun _ => sw_e fun w e => hq w ?_ ?_
    · rw [e]; exact vr.A _ _ (by decide) (by decide)
    · rw [e]; exact vC.keep rfl rfl (Int.le_refl _)
  unfold v_4_fillSplit_7b
  refine rd_i fun _ => br_i (fun _ => k76) fun hlt => rd_i fun _ => br_i (fun _ => k76) fun _ => br_i (fun _ => bd_i h6 (by omega) (rd_i fun _ => j_join vr.1 vC c0 c1 (D.2 (Or.inl hd) x6 h6 (by omega)) fun w hw wC _ => ov_i (by omega) (by omega) (ih _ _ _ _ _ _ _ ⟨rfl, rfl, rfl, rfl, rfl, by omega, vr.tr hw, wC⟩ (by omega)))) fun _ => j_join vr.1 vC c0 c1 (vr.up hx) fun w hw wC _ => j_join hw.1 wC c0 c1 (hw.up (vr.up hy)) fun z hz zC _ => ov_i (by omega) (by omega) (ih _ _ _ _ _ _ _ ⟨rfl, rfl, rfl, rfl, rfl, by omega, (vr.tr hw).tr hz, zC⟩ (by omega))
/-- a state while proving, with its clauses -/
def PVs (E : Int → Prop) (u0 u : iST) : Prop := PS u0 u ∧ CV (VG E u) u
theorem j_leave {u0 u : iST} {c : Int} {E : Int → Prop} {Q : iST → Prop} (h : PVs E u0 u) (c0 : 0 ≤ c) (c1 : c < 408) (hc : VG E u c) (h14 : 1 ≤ u.1 14) (hq : ∀ v, PVs E u0 v → Q v) : v_4_leave c Q u := by
  obtain ⟨hP, hC⟩ := h
  have q14 := hP.2.2.2.2.2.2.2.1
  have q15 := hP.2.2.2.2.2.2.2.2
  have k32 : ∀ v, PVs E u0 v → 1 ≤ v.1 14 → v_4_leave_32 Q v := by
    intro v ⟨vP, vC⟩ v14
    have w14 := vP.2.2.2.2.2.2.2.1
    unfold v_4_leave_32
    refine rd_i fun _ => ov_i (by omega) (by omega) (sw_e fun w e => hq w ?_)
    have wr : RG [14] [] v w := by rw [e]; exact (RG.rf vP.T).I _ (by decide) (by decide) (by decide)
    have e14 : w.1 14 = v.1 14 - 1 := by rw [e]; rfl
    refine ⟨vP.k wr (by decide) (by decide) (by omega) (by rw [wr.s 15 (by decide)]; exact vP.2.2.2.2.2.2.2.2), CV.rg (vC.less (fun z hz => ?_)) wr (by decide) (by decide)⟩
    unfold VG at *
    rw [wr.s 13 (by decide), wr.s 15 (by decide), e14] at hz
    rcases hz with hz | hz | hz | hz
    · exact Or.inl hz
    · exact Or.inr (Or.inl (by omega))
    · exact Or.inr (Or.inr (Or.inl hz))
    · exact Or.inr (Or.inr (Or.inr hz))
  unfold v_4_leave
  refine rd_i fun _ => br_i (fun _ => k32 u ⟨hP, hC⟩ h14) fun hlt => rd_i fun _ => bd_i q15.1 (by omega) (j_copy hP.T hC (by omega) (by omega) c0 c1 hc fun v hv vC _ _ => rd_i fun _ => ?_)
  have v15 : v.1 15 = u.1 15 := hv.s 15 (by decide)
  have v14 : v.1 14 = u.1 14 := hv.s 14 (by decide)
  have v13 : v.1 13 = u.1 13 := hv.s 13 (by decide)
  rw [v15]
  refine ov_i (by omega) (by omega) (sw_e fun w e => k32 w ?_ ?_)
  · have wr : RG [15] [] v w := by rw [e]; exact (RG.rf hv.1).I _ (by decide) (by decide) (by decide)
    have w15 : w.1 15 = u.1 15 + 1 := by rw [e]; rfl
    refine ⟨(hP.cl hv).k wr (by decide) (by decide) (by rw [wr.s 14 (by decide), v14]; exact q14) (by omega), CV.rg (vC.less (fun z hz => ?_)) wr (by decide) (by decide)⟩
    unfold VG at *
    rw [wr.s 13 (by decide), wr.s 14 (by decide), v13, v14, w15] at hz
    rcases hz with hz | hz | hz | hz
    · exact Or.inl (Or.inl hz)
    · exact Or.inl (Or.inr (Or.inl hz))
    · by_cases q : z = 130 + u.1 15
      · exact Or.inr q
      · exact Or.inl (Or.inr (Or.inr (Or.inl (by omega))))
    · exact Or.inl (Or.inr (Or.inr (Or.inr hz)))
  · have : w.1 14 = v.1 14 := by rw [e]; rfl
    omega
theorem j_split {u0 u : iST} {c p x : Int} {E : Int → Prop} {Q : iST → Prop} (h : PVs E u0 u) (c0 : 0 ≤ c) (c1 : c < 408) (hc : VG E u c) (hq : ∀ v, PVs E u0 v → Q v) : v_4_split c p x Q u := by
  obtain ⟨hP, hC⟩ := h
  have hT := hP.T
  have q14 := hP.2.2.2.2.2.2.2.1
  have k30 : ∀ x4 y, v_4_split_30 Q c p x4 y u := by
    intro x4 y
    unfold v_4_split_30
    refine j_item hT (by decide) fun a _ a1 => j_item hT (by decide) fun b _ b1 => j_item hT (by decide) fun d _ d1 => rd_i fun _ => br_i (fun hlt => rd_i fun _ => bd_i q14.1 hlt ?_) fun _ => j_blame hT (by decide) fun v hv _ => hq v ⟨hP.rm hv, ?_⟩
    · -- the second half
      have k157 : ∀ v s t, PS u0 v → CV (fun z => VG E u z ∨ z = 120 + u.1 14) v → v.1 13 = u.1 13 → v.1 14 = u.1 14 → v.1 15 = u.1 15 → s < v.1 29 → t < v.1 29 → v_4_split_157 Q c 150 c p s t v := by
        intro v s t vP vC v13 v14 v15 hs ht
        unfold v_4_split_157
        refine j_fillSplit vP.T vC (by decide) (by decide) c0 c1 (Or.inl hc) hs ht fun w hw wC => j_copy hw.1 wC c0 c1 (by decide) (by decide) (Or.inr rfl) fun z hz zC _ _ => rd_i fun _ => ?_
        have z14 : z.1 14 = u.1 14 := by rw [hz.s 14 (by decide), hw.s 14 (by decide), v14]
        rw [z14]
        refine ov_i (by omega) (by omega) (sw_e fun r e => hq r ?_)
        have rr : RG [14] [] z r := by rw [e]; exact (RG.rf hz.1).I _ (by decide) (by decide) (by decide)
        have r14 : r.1 14 = u.1 14 + 1 := by rw [e]; rfl
        refine ⟨((vP.jn hw).cl hz).k rr (by decide) (by decide) (by omega) (by rw [rr.s 15 (by decide), hz.s 15 (by decide), hw.s 15 (by decide), v15]; exact hP.2.2.2.2.2.2.2.2), CV.rg (zC.less (fun y hy => ?_)) rr (by decide) (by decide)⟩
        unfold VG at hy
        rw [rr.s 13 (by decide), hz.s 13 (by decide), hw.s 13 (by decide), v13, rr.s 15 (by decide), hz.s 15 (by decide), hw.s 15 (by decide), v15, r14] at hy
        unfold VG
        rcases hy with hy | hy | hy | hy
        · exact Or.inl (Or.inl (Or.inl (Or.inl hy)))
        · by_cases q : y = 120 + u.1 14
          · exact Or.inl (Or.inl (Or.inr q))
          · exact Or.inl (Or.inl (Or.inl (Or.inr (Or.inl (by omega)))))
        · exact Or.inl (Or.inl (Or.inl (Or.inr (Or.inr (Or.inl hy)))))
        · exact Or.inl (Or.inl (Or.inl (Or.inr (Or.inr (Or.inr hy)))))
      have k126 : ∀ v s t, RM u v → s < v.1 29 → t < v.1 29 → v_4_split_126 Q c p x4 a d (120 + u.1 14) c p s t v := by
        intro v s t vr hs ht
        unfold v_4_split_126
        refine j_fillSplit vr.1 (hC.rg vr (by decide) (by decide)) (by omega) (by omega) c0 c1 hc hs ht fun w hw wC => ?_
        have wP := (hP.rm vr).jn hw
        have w13 : w.1 13 = u.1 13 := by rw [hw.s 13 (by decide), vr.s 13 (by decide)]
        have w14 : w.1 14 = u.1 14 := by rw [hw.s 14 (by decide), vr.s 14 (by decide)]
        have w15 : w.1 15 = u.1 15 := by rw [hw.s 15 (by decide), vr.s 15 (by decide)]
        exact br_i (fun _ => k157 w a d wP wC w13 w14 w15 (hw.up (vr.up a1)) (hw.up (vr.up d1))) fun _ => j_negated hw.1 (hw.up (vr.up d1)) fun e z hz he => k157 z a e (wP.rm hz) (wC.rg hz (by decide) (by decide)) (by rw [hz.s 13 (by decide), w13]) (by rw [hz.s 14 (by decide), w14]) (by rw [hz.s 15 (by decide), w15]) (hz.up (hw.up (vr.up a1))) he
      exact j_negated hT a1 fun s v hv hs => br_i (fun _ => k126 v s b hv hs (hv.up b1)) fun _ => j_negated hv.1 (hv.up b1) fun t w hw ht => k126 w s t (hv.tr hw) (hw.up hs) ht
    · rw [VG.eq (hv.s 13 (by decide)) (hv.s 14 (by decide)) (hv.s 15 (by decide))]
      exact hC.rg hv (by decide) (by decide)
  unfold v_4_split
  exact j_isCallOf hT (fun _ _ => br_n (by decide) (j_item hT (by decide) fun a _ _ => k30 _ _)) fun _ => br_y rfl (k30 _ _)
theorem j_makeRound {u0 u : iST} {c : Int} {E : Int → Prop} {Q : iST → Prop} (h : PVs E u0 u) (c0 : 0 ≤ c) (c1 : c < 408) (hc : VG E u c) (h14 : 1 ≤ u.1 14) (h48 : u.2.1 48 c < 6) (hq : ∀ v, PVs E u0 v → Q v) : v_4_makeRound c Q u := by
  unfold v_4_makeRound
  refine rd_i fun hr => ov_i (by omega) (by omega) (sw_e fun a e => ?_)
  have ar : RG [] cRw u a := by rw [e]; exact (RG.rf h.1.T).A _ _ (by decide) (by decide)
  have aC : CV (VG E u) a := by rw [e]; exact h.2.keep rfl rfl (Int.le_refl _)
  clear e
  have aP : PVs E u0 a := ⟨h.1.cl ar, by rw [VG.eq (ar.s 13 (by decide)) (ar.s 14 (by decide)) (ar.s 15 (by decide))]; exact aC⟩
  unfold v_4_makeRound_17
  refine lf4 (B := fun R x1 x2 x3 x4 u => v_4_makeRound_17b R Q x1 x2 x3 x4 u) (fun x1 x2 x3 x4 v => c = x1 ∧ 0 ≤ x3 ∧ x3 ≤ 30 ∧ 0 ≤ x4 ∧ PVs E u0 v ∧ v.1 13 = u.1 13 ∧ v.1 14 = u.1 14 ∧ v.1 15 = u.1 15) (fun _ _ _ x4 _ => (1000000 - x4).toNat) ?_ ⟨rfl, Int.le_refl _, by decide, Int.le_refl _, aP, ar.s 13 (by decide), ar.s 14 (by decide), ar.s 15 (by decide)⟩
  intro x1 x2 x3 x4 v hI R ih
  obtain ⟨rfl, h3, h3b, h4, vP, v13, v14, v15⟩ := hI
  have vT := vP.1.T
  have vG : VG E v = VG E u := VG.eq v13 v14 v15
  have vc : VG E v c := by rw [vG]; exact hc
  have C := vP.2 c c0 c1
  have bad : ∀ w, PVs E u0 w → v_7_blame 4 (fun u => Q u) w := fun w wP => j_blame wP.1.T (by decide) fun z hz _ => hq z ⟨wP.1.rm hz, by rw [VG.eq (hz.s 13 (by decide)) (hz.s 14 (by decide)) (hz.s 15 (by decide))]; exact wP.2.rg hz (by decide) (by decide)⟩
  have k250 : v_4_makeRound_250 Q c x2 v := by
    unfold v_4_makeRound_250
    exact br_i (fun _ => j_isTooBig fun b _ => br_i (fun _ => hq v vP) fun _ => bad v vP) fun _ => j_leave vP c0 c1 vc (by omega) hq
  unfold v_4_makeRound_17b
  refine br_i (fun _ => k250) fun hlt => rd_i fun _ => br_i (fun _ => k250) fun hat => bd_i h3 (by omega) (rd_i fun _ => ?_)
  have lit := C.2 vc x3 h3 (by omega)
  generalize v.2.1 49 (30 * c + x3) = L at lit ⊢
  refine j_rowOfOthers vT vP.2 c0 c1 vc fun t w hw ht => rd_i fun _ => ?_
  have wP : PVs E u0 w := ⟨vP.1.rm hw, by rw [VG.eq (hw.s 13 (by decide)) (hw.s 14 (by decide)) (hw.s 15 (by decide))]; exact vP.2.rg hw (by decide) (by decide)⟩
  have w13 : w.1 13 = u.1 13 := by rw [hw.s 13 (by decide), v13]
  have w14 : w.1 14 = u.1 14 := by rw [hw.s 14 (by decide), v14]
  have w15 : w.1 15 = u.1 15 := by rw [hw.s 15 (by decide), v15]
  have x330 : x3 < 30 := by omega
  have k97 : ∀ z y, PVs E u0 z → z.1 13 = u.1 13 → z.1 14 = u.1 14 → z.1 15 = u.1 15 → y < z.1 29 → v_4_makeRound_97 R Q c x2 x3 x4 L y z := by
    intro z y zP z13 z14 z15 hy
    have zG : VG E z = VG E u := VG.eq z13 z14 z15
    have zc : VG E z c := by rw [zG]; exact hc
    have zT := zP.1.T
    have nx : ∀ s b p, p ≤ 30 → 0 ≤ p → PVs E u0 s → s.1 13 = u.1 13 → s.1 14 = u.1 14 → s.1 15 = u.1 15 → ov (x4 + 1) (R c b p (x4 + 1) s) := fun s b p p1 p0 sP s13 s14 s15 => ov_i (by omega) (by omega) (ih _ _ _ _ _ ⟨rfl, p0, p1, by omega, sP, s13, s14, s15⟩ (by omega))
    have k237 : ∀ s b, PVs E u0 s → s.1 13 = u.1 13 → s.1 14 = u.1 14 → s.1 15 = u.1 15 → v_4_makeRound_237 R Q c b x4 x3 s := by
      intro s b sP s13 s14 s15
      unfold v_4_makeRound_237
      exact ov_i (by omega) (by omega) (nx s b (x3 + 1) (by omega) (by omega) sP s13 s14 s15)
    have k219 : ∀ x8 b, v_4_makeRound_219 R Q c x3 x4 y x8 b z := by
      intro x8 b
      unfold v_4_makeRound_219
      refine br_i (fun _ => k237 z b zP z13 z14 z15) fun _ => j_stands zT zP.2 c0 c1 h3 x330 hy fun b2 s hb2 hs sC => ?_
      have s13 : s.1 13 = u.1 13 := by rw [hs.s 13 (by decide), z13]
      have s14 : s.1 14 = u.1 14 := by rw [hs.s 14 (by decide), z14]
      have s15 : s.1 15 = u.1 15 := by rw [hs.s 15 (by decide), z15]
      have sP : PVs E u0 s := ⟨zP.1.cl hs, by rw [VG.eq s13 s14 s15, ← zG]; exact sC⟩
      exact br_i (fun _ => ov_i (by omega) (by omega) (nx s b (x3 + 0) (by omega) (by omega) sP s13 s14 s15)) fun _ => k237 s b sP s13 s14 s15
    have k214 : ∀ x8, v_4_makeRound_214 R Q c x3 x4 y x8 z := by
      intro x8
      unfold v_4_makeRound_214
      exact k219 _ _
    have k203 : ∀ b, v_4_makeRound_203 R Q c x2 x3 x4 y b z := by
      intro b
      unfold v_4_makeRound_203
      exact br_i (fun _ => k214 _) fun _ => br_i (fun _ => k219 _ _) fun _ => k214 _
    have k202 : v_4_makeRound_202 R Q c x2 x3 x4 y z := by
      unfold v_4_makeRound_202
      exact k203 0
    have k186 : v_4_makeRound_186 R Q c x2 x3 x4 L y z := by
      unfold v_4_makeRound_186
      exact br_i (fun _ => k202) fun _ => br_i (fun _ => k202) fun _ => k203 1
    have k177 : v_4_makeRound_177 Q c x3 y z := by
      unfold v_4_makeRound_177
      exact j_split zP c0 c1 zc hq
    unfold v_4_makeRound_97
    refine br_i (fun _ => br_i (fun _ => j_isCallOf zT (fun _ _ => br_y (by decide) k177) fun _ => br_n (fun q => q rfl) (j_isCallOf zT (fun _ _ => br_n (by decide) (j_item zT (by decide) fun a _ _ => j_isCallOf zT (fun _ _ => br_n (by decide) k177) fun _ => br_y rfl k186)) fun _ => br_y rfl k186)) fun _ => rd_i fun _ => ov_i (by omega) (by omega) (sw_e fun r e => hq r ?_)) fun _ => bad z zP
    have rr : RG [14] [] z r := by rw [e]; exact (RG.rf zT).I _ (by decide) (by decide) (by decide)
    have r14 : r.1 14 = z.1 14 - 1 := by rw [e]; rfl
    have q14 := zP.1.2.2.2.2.2.2.2.1
    refine ⟨zP.1.k rr (by decide) (by decide) (by omega) (by rw [rr.s 15 (by decide)]; exact zP.1.2.2.2.2.2.2.2.2), CV.rg (zP.2.less (fun s hs => ?_)) rr (by decide) (by decide)⟩
    unfold VG at *
    rw [rr.s 13 (by decide), rr.s 15 (by decide), r14] at hs
    rcases hs with hs | hs | hs | hs
    · exact Or.inl hs
    · exact Or.inr (Or.inl (by omega))
    · exact Or.inr (Or.inr (Or.inl hs))
    · exact Or.inr (Or.inr (Or.inr hs))
  have w44 := wP.1.T.1.1
  have wlit : L < w.1 29 := hw.up lit
  refine br_i (fun _ => k97 w (-1) wP w13 w14 w15 (by omega)) fun h32 => rz_i fun _ => ?_
  have h32 := Classical.not_not.mp h32
  obtain ⟨g1, g2, g3, g4, g5, g6, g7, g8, g9⟩ := wP.1
  refine br_i (fun h16 => j_rewritten g2 (g3 (Or.inl h32)) g4 g5 (g6 h16) wlit ht fun r z hz zW z31 zN hr _ => ?_) fun h16 => j_recalled wP.1.T ⟨(g3 (Or.inr h16)).1, fun k k0 k1 => ?_⟩ (fun _ k k0 k1 => ((g3 (Or.inr h16)).2 k k0 k1).2.2) fun r z hz hr => ?_
  · unfold v_4_makeRound_95
    have z13 : z.1 13 = u.1 13 := by rw [hz.s 13 (by decide), w13]
    have z14 : z.1 14 = u.1 14 := by rw [hz.s 14 (by decide), w14]
    have z15 : z.1 15 = u.1 15 := by rw [hz.s 15 (by decide), w15]
    refine k97 z r ⟨⟨g1.tr (hz.w (by decide) (by decide)), zW, fun q => ?_, by rw [hz.s 25 (by decide), hz.s 1 (by decide)]; exact g4, z31, by rw [hz.s 16 (by decide), hz.s 27 (by decide), hz.s 30 (by decide)]; exact g6, by rw [hz.s 13 (by decide)]; exact g7, by rw [hz.s 14 (by decide)]; exact g8, by rw [hz.s 15 (by decide)]; exact g9⟩, ?_⟩ z13 z14 z15 hr
    · rw [hz.s 16 (by decide)] at q
      exact zN (Or.inl (q.resolve_right (fun y => y h16)))
    · rw [VG.eq (hz.s 13 (by decide)) (hz.s 14 (by decide)) (hz.s 15 (by decide))]
      exact wP.2.rg hz (by decide) (by decide)
  · have q := (g3 (Or.inr h16)).2 k k0 k1
    exact ⟨q.1, q.2.1, Or.inl q.2.2⟩
  · unfold v_4_makeRound_95
    refine k97 z r ⟨wP.1.rc hz, ?_⟩ (by rw [hz.s 13 (by decide), w13]) (by rw [hz.s 14 (by decide), w14]) (by rw [hz.s 15 (by decide), w15]) hr
    rw [VG.eq (hz.s 13 (by decide)) (hz.s 14 (by decide)) (hz.s 15 (by decide))]
    exact wP.2.rg hz (by decide) (by decide)
