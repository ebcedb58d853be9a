/-! the class: notes are asked again; rules are learned -/
theorem j_doNotesHold_q [DecidableEq Ob] {u : iST} {Q : Int → iST → Prop} (hW : WK_q u) (hN : NF_q u) (h25 : 0 ≤ u.1 25 ∧ u.1 25 ≤ u.1 1) (h31 : 0 ≤ u.1 31 ∧ u.1 31 ≤ u.1 30) (hq : ∀ b v, bz b → RG_r (27 :: rwS_q) rwR_q u v → WK_q v → (0 ≤ v.1 31 ∧ v.1 31 ≤ v.1 30) → NF_q v → (v.1 27 = 0 ∧ v.1 28 = 0) → Q b v) : v_6_doNotesHold Q u := by
  have hT := hW.1
  unfold v_6_doNotesHold
  refine zt_1 (sw_e_r fun a e => ?_)
  have ra : RG_r (27 :: rwS_q) rwR_q u a := by rw [e]; exact (RG_r.rf hT).I _ (by decide) (by decide) (by decide)
  have a2 : a.2 = u.2 := by rw [e]; rfl
  have ao : ∀ k, k ≠ 27 → a.1 k = u.1 k := fun k hk => by rw [e]; exact if_neg hk
  have a27 : a.1 27 = 1 := by rw [e]; rfl
  clear e
  have wk : ∀ {s t : iST}, WK_q s → RT_r t → Ce_r s t → (∀ k, k ≠ 27 → k ≠ 28 → t.1 k = s.1 k) → t.2 = s.2 → WK_q t := by
    intro s t h hT2 hC h1 h2
    obtain ⟨p1, p2, p3, p4, p5, p6, p7⟩ := h
    refine ⟨hT2, ⟨p2.1.keep (h1 0 (by decide) (by decide)) (h1 1 (by decide) (by decide)) (by rw [h2]) (by rw [h2]), fun d d0 d1 => ?_⟩, by rw [h1 37 (by decide) (by decide)]; exact p3, by rw [h1 38 (by decide) (by decide)]; exact p4, p5.keep (h1 1 (by decide) (by decide)) hC.1 (fun k _ => by rw [h2]), p6.keep (by rw [h2]), by rw [h1 39 (by decide) (by decide)]; exact p7⟩
    rw [h1 0 (by decide) (by decide)] at d1
    rw [h2]
    exact ⟨(p2.2 d d0 d1).1.ext p1 hC, (p2.2 d d0 d1).2⟩
  unfold v_6_doNotesHold_9
  refine lf2 (B := fun R x1 x2 u => v_6_doNotesHold_9b R Q x1 x2 u) (fun x1 x2 v => bz x1 ∧ 0 ≤ x2 ∧ RG_r (27 :: rwS_q) rwR_q u v ∧ v.1 27 = 1 ∧ WK_q v ∧ NF_q v ∧ (0 ≤ v.1 31 ∧ v.1 31 ≤ v.1 30)) (fun _ x2 _ => (1000 - x2).toNat) ?_ ⟨Or.inr rfl, Int.le_refl _, ra, a27, wk hW ra.1 ra.2.1 (fun k h1 _ => ao k h1) a2, hN.keep (ao 26 (by decide)) ra.2.1.1 (by rw [a2]), by rw [ao 31 (by decide), ao 30 (by decide)]; exact h31⟩
  intro x1 x2 v hI R ih
  obtain ⟨b1, x20, vr, v27, vW, vN, v31⟩ := hI
  have k90 : v_6_doNotesHold_90 Q x1 v := by
    unfold v_6_doNotesHold_90
    refine zt_0 (sw_e_r fun w e => sw_e_r fun z e2 => ⟨b1, ?_⟩)
    have zr : RG_r (27 :: rwS_q) rwR_q v z := by rw [e2, e]; exact ((RG_r.rf vr.1).I _ (by decide) (by decide) (by decide)).I _ (by decide) (by decide) (by decide)
    have z2 : z.2 = v.2 := by rw [e2, e]; rfl
    have zo : ∀ k, k ≠ 27 → k ≠ 28 → z.1 k = v.1 k := fun k h1 h2 => by
      rw [e2, e]
      show (if k = 28 then _ else if k = 27 then _ else v.1 k) = _
      rw [if_neg h2, if_neg h1]
    exact hq x1 z b1 (vr.tr zr) (wk vW zr.1 zr.2.1 zo z2) (by rw [zo 31 (by decide) (by decide), zo 30 (by decide) (by decide)]; exact v31) (vN.keep (zo 26 (by decide) (by decide)) zr.2.1.1 (by rw [z2])) ⟨by rw [e2, e]; rfl, by rw [e2]; rfl⟩
  have n := vN.1
  unfold v_6_doNotesHold_9b
  refine rd_i fun _ => br_i (fun _ => k90) fun hlt => br_i (fun _ => k90) fun _ => ov_i (by omega) (by omega) (sw_e_r fun w e => bd_i x20 (by omega) (bd_i (by decide) (by decide) (rd_i fun _ => bd_i (by decide) (by decide) (rd_i fun _ => bd_i (by decide) (by decide) (rd_i fun _ => ?_)))))
  have wr : RG_r (27 :: rwS_q) rwR_q v w := by rw [e]; exact (RG_r.rf vr.1).I _ (by decide) (by decide) (by decide)
  have w2 : w.2 = v.2 := by rw [e]; rfl
  have wo : ∀ k, k ≠ 28 → w.1 k = v.1 k := fun k hk => by rw [e]; exact if_neg hk
  clear e
  have nk := vN.2 x2 x20 (by omega)
  have wN : NF_q w := vN.keep (wo 26 (by decide)) wr.2.1.1 (by rw [w2])
  rw [w2]
  refine j_rewritten_q (wk vW wr.1 wr.2.1 (fun k _ h2 => wo k h2) w2) wN (by rw [wo 25 (by decide), wo 1 (by decide), vr.s 25 (by decide), vr.s 1 (by decide)]; exact h25) (by rw [wo 31 (by decide), wo 30 (by decide)]; exact v31) (fun z => by rw [wo 27 (by decide), v27] at z; omega) (by rw [wo 27 (by decide), v27]; decide) (by rw [wo 29 (by decide)]; exact nk.1) (by rw [wo 29 (by decide)]; exact nk.2.1) fun t z hz zW z31 zN ht zt => rd_i fun _ => ?_
  have zN2 := zN (Or.inr (by rw [wo 27 (by decide), v27]; decide))
  have nx : ∀ b, bz b → ov (x2 + 1) (R b (x2 + 1) z) := fun b hb => ov_i (by omega) (by omega) (ih _ _ _ ⟨hb, by omega, (vr.tr wr).tr (hz.w (by decide) (by decide)), by rw [hz.s 27 (by decide), wo 27 (by decide)]; exact v27, zW, zN2, z31⟩ (by omega))
  exact br_i (fun _ => nx 0 (Or.inl rfl)) fun _ => bd_i (by decide) (by decide) (rd_i fun _ => br_i (fun _ => nx 0 (Or.inl rfl)) fun _ => rd_i fun _ => bd_i (by decide) (by decide) (rd_i fun _ => br_i (fun _ => nx 0 (Or.inl rfl)) fun _ => nx 1 (Or.inr rfl)))
