/-! the class: prove -/
def LG_r (E : Int → Prop) (u : iST) (c : Int) : Prop := c < u.1 13 ∨ (130 ≤ c ∧ c < 130 + u.1 15) ∨ E c
theorem LG_r.eq [DecidableEq Ob] {E : Int → Prop} {u v : iST} (h13 : v.1 13 = u.1 13) (h15 : v.1 15 = u.1 15) : LG_r E v = LG_r E u := by
  funext c
  unfold LG_r
  rw [h13, h15]
abbrev peS_r : List Nat := [4, 5, 6, 7, 8, 9, 14, 15, 16, 23, 24, 26, 28, 29, 31, 32, 39]
def PEn_r [DecidableEq Ob] (E : Int → Prop) (a : Int) (u v : iST) : Prop := RG_r peS_r pvR_r u v ∧ WK_r v ∧ (v.1 32 = 0 ∨ a ≠ 0 → NF_r v) ∧ (0 ≤ v.1 31 ∧ v.1 31 ≤ v.1 30) ∧ (0 ≤ v.1 14 ∧ v.1 14 ≤ 10) ∧ (0 ≤ v.1 15 ∧ v.1 15 ≤ 20) ∧ CV_r (LG_r E v) v ∧ v.1 16 = a
theorem j_prove_r [DecidableEq Ob] {u : iST} {a : Int} {E : Int → Prop} {Q : iST → Prop} (hb : bz a) (hW : WK_r u) (hN : u.1 32 = 0 ∨ a ≠ 0 → NF_r u) (h25 : 0 ≤ u.1 25 ∧ u.1 25 ≤ u.1 1) (h31 : 0 ≤ u.1 31 ∧ u.1 31 ≤ u.1 30) (h30 : a = 0 → u.1 27 = 0 → u.1 30 ≤ 1000) (h13 : 0 ≤ u.1 13 ∧ u.1 13 ≤ 120) (h14 : 0 ≤ u.1 14 ∧ u.1 14 ≤ 10) (hC : CV_r (fun c => c < u.1 13 ∨ E c) u) (hq : ∀ v, PEn_r E a u v → Q v) : v_4_prove a Q u := by
  have hT := hW.1
  unfold v_4_prove
  refine ⟨hb, sw_e_r fun w e => sw_e_r fun z e2 => ?_⟩
  have zr : RG_r [15, 16] [] u z := by rw [e2, e]; exact ((RG_r.rf hT).I _ (by decide) (by decide) (by decide)).I _ (by decide) (by decide) (by decide)
  have z16 : z.1 16 = a := by rw [e2, e]; rfl
  have z15 : z.1 15 = 0 := by rw [e2]; rfl
  clear e e2
  have z13 : z.1 13 = u.1 13 := zr.s 13 (by decide)
  have zP : PS_r z z := by
    refine ⟨RG_r.rf zr.1, hW.k zr (by decide) (by decide) (by decide) (by decide), fun q => ?_, by rw [zr.s 25 (by decide), zr.s 1 (by decide)]; exact h25, by rw [zr.s 31 (by decide), zr.s 30 (by decide)]; exact h31, ?_, by rw [z13]; exact h13, by rw [zr.s 14 (by decide)]; exact h14, by omega⟩
    · rw [zr.s 32 (by decide), z16] at q
      exact (hN q).keep (zr.s 26 (by decide)) zr.2.1.1 (zr.a 52 (by decide))
    · rw [z16, zr.s 27 (by decide), zr.s 30 (by decide)]; exact h30
  have zC : CV_r (LG_r E z) z := CV_r.rg (hC.less (fun c hc => by
    unfold LG_r at hc
    rw [z13, z15] at hc
    rcases hc with hc | hc | hc
    · exact Or.inl hc
    · omega
    · exact Or.inr hc)) zr (by decide) (by decide)
  have fin : ∀ v, PS_r z v → CV_r (LG_r E v) v → Q v := fun v vP vC => by
    obtain ⟨g1, g2, g3, g4, g5, g6, g7, g8, g9⟩ := vP
    have v16 : v.1 16 = a := by rw [g1.s 16 (by decide), z16]
    exact hq v ⟨(zr.w (by decide) (by decide)).tr (g1.w (by decide) (by decide)), g2, by rw [← v16]; exact g3, g5, g8, g9, vC, v16⟩
  unfold v_4_prove_12
  refine lf1 (B := fun R x2 u => v_4_prove_12b R Q x2 u) (fun x2 v => 0 ≤ x2 ∧ PS_r z v ∧ CV_r (LG_r E v) v) (fun x2 _ => (120 - x2).toNat) ?_ ⟨Int.le_refl _, zP, zC⟩
  intro x2 v hI R ih
  obtain ⟨h2, vP, vC⟩ := hI
  have q13 := vP.2.2.2.2.2.2.1
  unfold v_4_prove_12b
  refine rd_i fun _ => br_i (fun _ => fin v vP vC) fun hlt => rd_i fun _ => br_i (fun _ => fin v vP vC) fun h20 => rd_i fun _ => br_i (fun _ => fin v vP vC) fun h32 => bd_i (by decide) (by decide) (bd_i h2 (by omega) (j_copy_r vP.T vC (by decide) (by decide) h2 (by omega) (Or.inl (by omega)) fun w hw wC _ _ => sw_e_r fun s e => ?_))
  have sr : RG_r [14] [] w s := by rw [e]; exact (RG_r.rf hw.1).I _ (by decide) (by decide) (by decide)
  have s14 : s.1 14 = 1 := by rw [e]; rfl
  clear e
  have w13 : w.1 13 = v.1 13 := hw.s 13 (by decide)
  have w15 : w.1 15 = v.1 15 := hw.s 15 (by decide)
  have q15 := vP.2.2.2.2.2.2.2.2
  have sP : PVs_r E z s := by
    refine ⟨(vP.cl hw).k sr (by decide) (by decide) (by omega) (by rw [sr.s 15 (by decide), w15]; exact q15), CV_r.rg (wC.less (fun c hc => ?_)) sr (by decide) (by decide)⟩
    unfold VG_r at hc
    rw [sr.s 13 (by decide), w13, sr.s 15 (by decide), w15, s14] at hc
    unfold LG_r
    rcases hc with hc | hc | hc | hc
    · exact Or.inl (Or.inl hc)
    · exact Or.inr (by omega)
    · exact Or.inl (Or.inr (Or.inl hc))
    · exact Or.inl (Or.inr (Or.inr hc))
  unfold v_4_prove_61
  refine lf2 (B := fun R61 x2 x3 u => v_4_prove_61b R R61 Q x2 x3 u) (fun y2 x3 t => x2 = y2 ∧ 0 ≤ x3 ∧ PVs_r E z t) (fun _ x3 _ => (1000000 - x3).toNat) ?_ ⟨rfl, Int.le_refl _, sP⟩
  intro y2 x3 t hI2 R2 ih2
  obtain ⟨rfl, h3, tP⟩ := hI2
  have q14 := tP.1.2.2.2.2.2.2.2.1
  have out : ov (x2 + 1) (R (x2 + 1) t) := ov_i (by omega) (by omega) (ih _ _ ⟨by omega, tP.1, tP.2.less (fun c hc => by
    unfold VG_r
    unfold LG_r at hc
    rcases hc with hc | hc | hc
    · exact Or.inl hc
    · exact Or.inr (Or.inr (Or.inl hc))
    · exact Or.inr (Or.inr (Or.inr hc)))⟩ (by omega))
  unfold v_4_prove_61b
  refine br_i (fun _ => out) fun hlt3 => rd_i fun _ => br_i (fun _ => out) fun h14 => rd_i fun _ => br_i (fun _ => out) fun _ => rd_i fun _ => br_i (fun _ => out) fun _ => rd_i fun _ => ov_i (by omega) (by omega) (bd_i (by omega) (by omega) ?_)
  have nx : ∀ r, PVs_r E z r → ov (x3 + 1) (R2 x2 (x3 + 1) r) := fun r hr => ov_i (by omega) (by omega) (ih2 _ _ _ ⟨rfl, by omega, hr⟩ (by omega))
  have tc : VG_r E t (120 + (t.1 14 - 1)) := Or.inr (Or.inl (by omega))
  refine j_isPlain_r tP.1.T tP.2 (by omega) (by omega) fun b _ => br_i (fun _ => rd_i fun _ => br_i (fun h6 => j_makeRound_r tP (by omega) (by omega) tc (by omega) h6 nx) fun _ => j_leave_r tP (by omega) (by omega) tc (by omega) nx) fun _ => rd_i fun _ => ov_i (by omega) (by omega) (sw_e_r fun r e => nx r ?_)
  have rr : RG_r [14] [] t r := by rw [e]; exact (RG_r.rf tP.1.T).I _ (by decide) (by decide) (by decide)
  have r14 : r.1 14 = t.1 14 - 1 := by rw [e]; rfl
  refine ⟨tP.1.k rr (by decide) (by decide) (by omega) (by rw [rr.s 15 (by decide)]; exact tP.1.2.2.2.2.2.2.2.2), CV_r.rg (tP.2.less (fun y hy => ?_)) rr (by decide) (by decide)⟩
  unfold VG_r at *
  rw [rr.s 13 (by decide), rr.s 15 (by decide), r14] at hy
  rcases hy with hs | hs | hs | hs
  · exact Or.inl hs
  · exact Or.inr (Or.inl (by omega))
  · exact Or.inr (Or.inr (Or.inl hs))
  · exact Or.inr (Or.inr (Or.inr hs))
theorem j_listOf_r [DecidableEq Ob] {u : iST} {c : Int} {G : Int → Prop} {Q : Int → iST → Prop} (hT : RT_r u) (hC : CV_r G u) (c0 : 0 ≤ c) (c1 : c < 408) (hc : G c) (hq : ∀ t v, RM_r u v → t < v.1 29 → Q t v) : v_4_listOf c Q u := by
  have h44 := hT.1.1
  have C := hC c c0 c1
  unfold v_4_listOf
  refine rd_i fun _ => ov_i (by omega) (by omega) ?_
  unfold v_4_listOf_9
  refine lf3 (B := fun R x1 x2 x3 u => v_4_listOf_9b R Q x1 x2 x3 u) (fun x1 x2 x3 v => c = x1 ∧ x3 < u.2.1 46 c ∧ RM_r u v ∧ x2 < v.1 29) (fun _ _ x3 _ => (x3 + 1).toNat) ?_ ⟨rfl, by omega, RG_r.rf hT, by omega⟩
  intro x1 x2 x3 v hI R ih
  obtain ⟨rfl, h3, vr, h2⟩ := hI
  have e49 : v.2.1 49 = u.2.1 49 := vr.a 49 (by decide)
  unfold v_4_listOf_9b
  refine br_i (fun _ => hq x2 v vr h2) fun h0 => bd_i (by omega) (by omega) (rd_i fun _ => ?_)
  rw [e49]
  exact j_pair_r vr.1 (vr.up (C.2 hc x3 (by omega) h3)) h2 fun s z hz s0 s1 _ => ov_i (by omega) (by omega) (ih _ _ _ _ ⟨rfl, by omega, vr.tr hz, s1⟩ (by omega))
theorem j_listOfLeft_r [DecidableEq Ob] {u : iST} {E : Int → Prop} {Q : Int → iST → Prop} (hT : RT_r u) (hC : CV_r (LG_r E u) u) (h15 : 0 ≤ u.1 15 ∧ u.1 15 ≤ 20) (hq : ∀ t v, RM_r u v → t < v.1 29 → Q t v) : v_4_listOfLeft Q u := by
  have h44 := hT.1.1
  unfold v_4_listOfLeft
  refine rd_i fun _ => ov_i (by omega) (by omega) ?_
  unfold v_4_listOfLeft_9
  refine lf2 (B := fun R x1 x2 u => v_4_listOfLeft_9b R Q x1 x2 u) (fun x1 x2 v => x2 < u.1 15 ∧ RM_r u v ∧ x1 < v.1 29) (fun _ x2 _ => (x2 + 1).toNat) ?_ ⟨by omega, RG_r.rf hT, by omega⟩
  intro x1 x2 v hI R ih
  obtain ⟨h2, vr, h1⟩ := hI
  unfold v_4_listOfLeft_9b
  exact br_i (fun _ => hq x1 v vr h1) fun h0 => bd_i (by omega) (by omega) (j_listOf_r vr.1 (hC.rg vr (by decide) (by decide)) (by omega) (by omega) (Or.inr (Or.inl (by omega))) fun t w hw ht => j_pair_r hw.1 ht (hw.up h1) fun s z hz s0 s1 _ => ov_i (by omega) (by omega) (ih _ _ _ ⟨by omega, (vr.tr hw).tr hz, s1⟩ (by omega)))
theorem j_isAllProved_r [DecidableEq Ob] {u : iST} {Q : Int → iST → Prop} (hq : ∀ b, bz b → Q b u) : v_4_isAllProved Q u := by
  have z := j_q_r hq
  unfold v_4_isAllProved v_6_isAllRecalled
  exact rd_i fun _ => br_i (fun _ => z.1) fun _ => rd_i fun _ => br_i (fun _ => z.1) fun _ => rz_i fun _ => br_i (fun _ => z.2) fun _ => rd_i fun _ => rd_i fun _ => br_i (fun _ => zt_0 (br_y rfl z.1)) fun _ => zt_1 (br_n (by decide) z.2)

