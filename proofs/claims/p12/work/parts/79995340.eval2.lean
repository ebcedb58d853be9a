/-! the class: evaluation goes on -/
theorem EN2_r.same [DecidableEq Ob] {u v : iST} (h : EN2_r u) (hs : ∀ k, k ∈ [0, 4, 5, 6, 7, 8] → v.1 k = u.1 k) (h22 : v.2.1 22 = u.2.1 22) (h29 : u.1 29 ≤ v.1 29) : EN2_r v := by
  obtain ⟨e1, e2, e3, e4, e5, e6, e7⟩ := h
  refine ⟨by rw [hs 4 (by decide)]; exact e1, by rw [hs 5 (by decide)]; exact e2, by rw [hs 5 (by decide)]; exact e3, by rw [hs 6 (by decide), hs 0 (by decide)]; exact e4, by rw [hs 7 (by decide)]; exact e5, by rw [hs 8 (by decide)]; exact e6, fun i i0 i1 => ?_⟩
  rw [hs 5 (by decide)] at i1
  rw [h22]
  have := e7 i i0 i1
  omega
theorem j_begin2_r [DecidableEq Ob] {u : iST} {x : Int} {d : Nat} {Q : iST → Prop} (hT : RT_r u) (hB : BN_r u) (hE : EN2_r u) (h4 : u.1 4 = d) (hK : EK_r u d (u.1 5)) (hx : WF_r u x) (hp : pr_r u x) (h2 : eL_r' u x ≠ 2) (hq : ∀ v, RG_r evS_r evR_r u v → EN2_r v → (v.1 9 ≠ 0 ∨ (v.1 9 = u.1 9 ∧ v.1 4 = d + 1 ∧ ET_r v (d + 1) (v.1 5))) → Q v) : v_2_begin x Q u := by
  obtain ⟨e1, e2, e3, e4, e5, e6, e7⟩ := hE
  have hE : EN2_r u := ⟨e1, e2, e3, e4, e5, e6, e7⟩
  have hr := hK.r
  have stop : ∀ w k, RG_r evS_r evR_r u w → EN2_r w → k ≠ 0 → Q (iI w 9 k) := fun w k wr wE hk => hq _ (wr.I k (by decide) (by decide) (by decide)) (wE.same (fun j hj => if_neg (fun e => by rw [e] at hj; revert hj; decide)) rfl (Int.le_refl _)) (Or.inl hk)
  unfold v_2_begin
  refine rd_i fun _ => br_i (fun hlt => rd_i fun _ => br_i (fun h8 => j_step_r hT (fun a ha _ _ _ => br_y (by decide) ?_) fun a ha _ _ => br_n (fun z => z rfl) (sw_i (stop a 1 (ha.w (by decide) (by decide)) (hE.same (fun j hj => ha.s j (by revert hj; revert j; decide)) (ha.a 22 (by decide)) ha.2.1.1) (by decide)))) fun _ => sw_i (stop u 5 (RG_r.rf hT) hE (by decide))) fun _ => sw_i (stop u 2 (RG_r.rf hT) hE (by decide))
  have aT := ha.1
  have as : ∀ k, k ∉ tS1_r → a.1 k = u.1 k := fun k hk => ha.s k hk
  have ar : ∀ k, k ∉ mR_r → a.2.1 k = u.2.1 k := fun k hk => ha.a k hk
  have eLa : eL_r' a x = eL_r' u x := (ha.2.1.el hp.2.1).1
  have eRa : eR_r' a x = eR_r' u x := (ha.2.1.el hp.2.1).2
  have r1 : RG_r evS_r evR_r u a := ha.w (by decide) (by decide)
  refine rd_i fun _ => ?_
  rw [as 8 (by decide)]
  refine ov_i (by omega) (by omega) (sw_e_r fun b0 q0 => rd_i fun _ => ?_)
  have b0r : RG_r evS_r evR_r u b0 := by rw [q0]; exact r1.I _ (by decide) (by decide) (by decide)
  have b0s : ∀ k, k ≠ 8 → b0.1 k = a.1 k := fun k hk => by rw [q0]; exact if_neg hk
  have b08 : b0.1 8 = u.1 8 - 1 := by rw [q0]; rfl
  have b02 : b0.2 = a.2 := by rw [q0]; rfl
  clear q0
  have n4 : b0.1 4 = d := by rw [b0s 4 (by decide), as 4 (by decide)]; exact h4
  have C0 : Ce_r u b0 := b0r.2.1
  have el0 := C0.el hp.2.1
  rw [n4]
  refine j_left_r b0r.1 (bd_i (by omega) (by omega) (sw_e_r fun b1 q1 => rd_i fun _ => ?_))
  rw [el0.1] at q1
  have s1 : b1.1 = b0.1 ∧ b1.2.2 = b0.2.2 ∧ (∀ k, k ≠ 16 → b1.2.1 k = b0.2.1 k) ∧ ∀ i, b1.2.1 16 i = if i = (d : Int) then eL_r' u x else b0.2.1 16 i := by rw [q1]; exact ⟨rfl, rfl, fun k hk => if_neg hk, fun _ => rfl⟩
  have r1' : RG_r evS_r evR_r u b1 := by rw [q1]; exact b0r.A _ _ (by decide) (by decide)
  clear q1
  rw [s1.1, n4]
  have el1 := r1'.2.1.el hp.2.1
  refine j_right_r r1'.1 (bd_i (by omega) (by omega) (sw_e_r fun b2 q2 => rd_i fun _ => rd_i fun _ => ?_))
  rw [el1.2] at q2
  have s2 : b2.1 = b0.1 ∧ (∀ k, k ≠ 17 → b2.2.1 k = b1.2.1 k) ∧ ∀ i, b2.2.1 17 i = if i = (d : Int) then eR_r' u x else b1.2.1 17 i := by rw [q2, ← s1.1]; exact ⟨rfl, fun k hk => if_neg hk, fun _ => rfl⟩
  have r2 : RG_r evS_r evR_r u b2 := by rw [q2]; exact r1'.A _ _ (by decide) (by decide)
  clear q2
  have n5 : b0.1 5 = u.1 5 := by rw [b0s 5 (by decide), as 5 (by decide)]
  rw [s2.1, n4, n5]
  refine bd_i (by omega) (by omega) (sw_e_r fun b3 q3 => rd_i fun _ => ?_)
  have s3 : b3.1 = b0.1 ∧ (∀ k, k ≠ 18 → b3.2.1 k = b2.2.1 k) ∧ ∀ i, b3.2.1 18 i = if i = (d : Int) then u.1 5 else b2.2.1 18 i := by rw [q3, ← s2.1]; exact ⟨rfl, fun k hk => if_neg hk, fun _ => rfl⟩
  have r3 : RG_r evS_r evR_r u b3 := by rw [q3]; exact r2.A _ _ (by decide) (by decide)
  clear q3
  rw [s3.1, n4]
  refine zt_0 (bd_i (by omega) (by omega) (sw_e_r fun b4 q4 => rd_i fun _ => rd_i fun _ => ?_))
  have s4 : b4.1 = b0.1 ∧ (∀ k, k ≠ 19 → b4.2.1 k = b3.2.1 k) ∧ ∀ i, b4.2.1 19 i = if i = (d : Int) then 0 else b3.2.1 19 i := by rw [q4, ← s3.1]; exact ⟨rfl, fun k hk => if_neg hk, fun _ => rfl⟩
  have r4 : RG_r evS_r evR_r u b4 := by rw [q4]; exact r3.A _ _ (by decide) (by decide)
  clear q4
  have n6 : b0.1 6 = u.1 6 := by rw [b0s 6 (by decide), as 6 (by decide)]
  have n7 : b0.1 7 = u.1 7 := by rw [b0s 7 (by decide), as 7 (by decide)]
  rw [s4.1, n4, n6]
  refine bd_i (by omega) (by omega) (sw_e_r fun b5 q5 => rd_i fun _ => rd_i fun _ => ?_)
  have s5 : b5.1 = b0.1 ∧ (∀ k, k ≠ 20 → b5.2.1 k = b4.2.1 k) ∧ ∀ i, b5.2.1 20 i = if i = (d : Int) then u.1 6 else b4.2.1 20 i := by rw [q5, ← s4.1]; exact ⟨rfl, fun k hk => if_neg hk, fun _ => rfl⟩
  have r5 : RG_r evS_r evR_r u b5 := by rw [q5]; exact r4.A _ _ (by decide) (by decide)
  clear q5
  rw [s5.1, n4, n7]
  refine bd_i (by omega) (by omega) (sw_e_r fun b6 q6 => rd_i fun _ => ?_)
  have s6 : b6.1 = b0.1 ∧ (∀ k, k ≠ 21 → b6.2.1 k = b5.2.1 k) ∧ ∀ i, b6.2.1 21 i = if i = (d : Int) then u.1 7 else b5.2.1 21 i := by rw [q6, ← s5.1]; exact ⟨rfl, fun k hk => if_neg hk, fun _ => rfl⟩
  have r6 : RG_r evS_r evR_r u b6 := by rw [q6]; exact r5.A _ _ (by decide) (by decide)
  clear q6
  rw [s6.1, n4]
  refine ov_i (by omega) (by omega) (sw_e_r fun b7 q7 => ?_)
  have r7 : RG_r evS_r evR_r u b7 := by rw [q7]; exact r6.I _ (by decide) (by decide) (by decide)
  have t7 : b7.1 4 = d + 1 ∧ (∀ k, k ≠ 4 → b7.1 k = b0.1 k) ∧ b7.2 = b6.2 := by rw [q7, ← s6.1]; exact ⟨rfl, fun k hk => if_neg hk, rfl⟩
  clear q7
  have so : ∀ k, k ≠ 4 → k ≠ 8 → k ∉ tS1_r → b7.1 k = u.1 k := fun k h1 h3 h5 => by rw [t7.2.1 k h1, b0s k h3, as k h5]
  have o22 : b7.2.1 22 = u.2.1 22 := by rw [t7.2.2, s6.2.1 22 (by decide), s5.2.1 22 (by decide), s4.2.1 22 (by decide), s3.2.1 22 (by decide), s2.2.1 22 (by decide), s1.2.2.1 22 (by decide), b02, ar 22 (by decide)]
  have c16 : ∀ i, b7.2.1 16 i = if i = (d : Int) then eL_r' u x else u.2.1 16 i := fun i => by rw [t7.2.2, s6.2.1 16 (by decide), s5.2.1 16 (by decide), s4.2.1 16 (by decide), s3.2.1 16 (by decide), s2.2.1 16 (by decide), s1.2.2.2, b02, ar 16 (by decide)]
  have c17 : ∀ i, b7.2.1 17 i = if i = (d : Int) then eR_r' u x else u.2.1 17 i := fun i => by rw [t7.2.2, s6.2.1 17 (by decide), s5.2.1 17 (by decide), s4.2.1 17 (by decide), s3.2.1 17 (by decide), s2.2.2, s1.2.2.1 17 (by decide), b02, ar 17 (by decide)]
  have c18 : ∀ i, b7.2.1 18 i = if i = (d : Int) then u.1 5 else u.2.1 18 i := fun i => by rw [t7.2.2, s6.2.1 18 (by decide), s5.2.1 18 (by decide), s4.2.1 18 (by decide), s3.2.2, s2.2.1 18 (by decide), s1.2.2.1 18 (by decide), b02, ar 18 (by decide)]
  have c19 : ∀ i, b7.2.1 19 i = if i = (d : Int) then 0 else u.2.1 19 i := fun i => by rw [t7.2.2, s6.2.1 19 (by decide), s5.2.1 19 (by decide), s4.2.2, s3.2.1 19 (by decide), s2.2.1 19 (by decide), s1.2.2.1 19 (by decide), b02, ar 19 (by decide)]
  have c20 : ∀ i, b7.2.1 20 i = if i = (d : Int) then u.1 6 else u.2.1 20 i := fun i => by rw [t7.2.2, s6.2.1 20 (by decide), s5.2.2, s4.2.1 20 (by decide), s3.2.1 20 (by decide), s2.2.1 20 (by decide), s1.2.2.1 20 (by decide), b02, ar 20 (by decide)]
  have c21 : ∀ i, b7.2.1 21 i = if i = (d : Int) then u.1 7 else u.2.1 21 i := fun i => by rw [t7.2.2, s6.2.2, s5.2.1 21 (by decide), s4.2.1 21 (by decide), s3.2.1 21 (by decide), s2.2.1 21 (by decide), s1.2.2.1 21 (by decide), b02, ar 21 (by decide)]
  have v0 := so 0 (by decide) (by decide) (by decide)
  have v5 := so 5 (by decide) (by decide) (by decide)
  have v29 := r7.2.1.1
  have q := eR_r_r hT x
  refine hq b7 r7 ⟨by omega, by omega, by omega, by rw [so 6 (by decide) (by decide) (by decide), v0]; exact e4, by rw [so 7 (by decide) (by decide) (by decide)]; exact e5, by rw [t7.2.1 8 (by decide), b08]; omega, fun i i0 i1 => by rw [o22]; rw [v5] at i1; have := e7 i i0 i1; omega⟩ (Or.inr ⟨so 9 (by decide) (by decide) (by decide), t7.1, u.1 5, ⟨by rw [c18, if_pos rfl], e2, hr.2.1, by omega, by rw [c17, if_pos rfl]; omega, by rw [c20, if_pos rfl, v0]; exact e4, by rw [c21, if_pos rfl]; exact e5⟩, by omega, by omega, hK.ext hT r7.2.1 v0 (fun i hi => ⟨by rw [c16, if_neg (by omega)], by rw [c17, if_neg (by omega)], by rw [c18, if_neg (by omega)], by rw [c19, if_neg (by omega)], by rw [c20, if_neg (by omega)], by rw [c21, if_neg (by omega)]⟩), Or.inr ⟨by rw [c19, if_pos rfl], ?_⟩⟩)
  obtain ⟨n, w1, w2, w3⟩ := hx.st.2 hp h2
  rw [c16, c17, if_pos rfl, if_pos rfl]
  exact ⟨n, n, w2.ext hT r7.2.1 q.2.1, (w3.ext hT r7.2.1 q.2.1).mono (fun y hy => hy.ext hT r7.2.1), w1, by omega⟩
theorem j_isReady_r [DecidableEq Ob] {u : iST} {d : Nat} {Q : Int → iST → Prop} (hT : RT_r u) (hd : d < 300) (hn : Q 0 u) (hy : u.2.1 19 d = 0 → ¬ pr_r u (u.2.1 17 d) → Q 1 u) : v_2_isReady d Q u := by
  unfold v_2_isReady
  exact bd_i (by omega) (by omega) (rz_i fun hb => br_i (fun _ => zt_0 hn) fun h19 => bd_i (by omega) (by omega) (rd_i fun _ => br_i (fun _ => zt_0 hn) fun _ => bd_i (by omega) (by omega) (rd_i fun _ => j_isPair_r hT (fun _ => br_y (by decide) (zt_0 hn)) fun hp => br_n (fun z => z rfl) (zt_1 (hy (Classical.not_not.mp h19) hp)))))
theorem WF_r.nil [DecidableEq Ob] {u : iST} (hT : RT_r u) : WF_r u 0 := WF_r.at (by have := hT.1.1; omega) (fun z => by have := (hT.2.1 0 z).2.2; omega)
theorem j_goOn_r [DecidableEq Ob] {u : iST} {d : Nat} {Q : Int → iST → Prop} (hT : RT_r u) (hB : BE_r u) (hE : EN2_r u) (h4 : u.1 4 = d + 1) (hK : ET_r u (d + 1) (u.1 5)) (hq : ∀ t v, RG_r evS_r evR_r u v → EN2_r v → v.1 9 = u.1 9 → ((t = -1 ∧ ∃ e : Nat, v.1 4 = e ∧ ET_r v e (v.1 5)) ∨ (0 ≤ t ∧ WF_r v t ∧ ∃ e : Nat, v.1 4 = e ∧ EK_r v e (v.1 5))) → Q t v) : v_2_goOn d Q u := by
  obtain ⟨b, hF, k1, k2, k3, k4⟩ := hK
  obtain ⟨f1, f2, f3, f4, f5, f6, f7⟩ := hF
  have hF : EFr_r u d b := ⟨f1, f2, f3, f4, f5, f6, f7⟩
  obtain ⟨e1, e2, e3, e4, e5, e6, e7⟩ := hE
  have hE : EN2_r u := ⟨e1, e2, e3, e4, e5, e6, e7⟩
  have b40 := hB.1.1.2
  have cl : ∀ x, x < u.1 29 → v_2_goOn_32 Q x u := fun x hx => by
    unfold v_2_goOn_32
    exact j_close_r hT hE h4 hF k1 hx fun v vr vE v4 v5 v9 v6 => hq (-1) v vr vE v9 (Or.inl ⟨rfl, d, v4, by rw [v5]; exact (k3.ext hT vr.2.1 (vr.s 0 (by decide)) (fun i _ => v6 i)).del⟩)
  unfold v_2_goOn
  refine bd_i (by omega) (by omega) (rz_i fun hb => br_i (fun h19 => bd_i (by omega) (by omega) (rd_i fun _ => ?_)) fun h19 => rd_i fun _ => br_i (fun h => ?_) fun h => rd_i fun _ => ov_i (by omega) (by omega) (bd_i (by omega) (by omega) (rd_i fun _ => cl _ (e7 _ (by omega) (by omega)))))
  · obtain ⟨_, n, r, g1, g2, g3, g4⟩ := k4.resolve_left (fun z => z.1 h19)
    have n6 := g3.1
    refine j_isPair_r hT (fun hp => br_y (by decide) (bd_i (by omega) (by omega) (rd_i fun _ => ?_))) fun hp => br_n (fun z => z rfl) (zt_1 (bd_i (by omega) (by omega) (sw_e_r fun w1 q1 => bd_i (by omega) (by omega) (rd_i fun _ => ?_))))
    · -- there is another term
      obtain ⟨r', rfl⟩ : ∃ r', r = r' + 1 := by
        cases r with
        | zero => exact absurd hp g1
        | succ r => exact ⟨r, rfl⟩
      have q := eR_r_r hT (u.2.1 17 d)
      have k193 : v_2_goOn_193 Q d (u.2.1 17 d) u := by
        unfold v_2_goOn_193
        refine j_right_r hT (bd_i (by omega) (by omega) (sw_e_r fun w e => ?_))
        have wr : RG_r evS_r evR_r u w := by rw [e]; exact (RG_r.rf hT).A _ _ (by decide) (by decide)
        have ws : w.1 = u.1 := by rw [e]; rfl
        have w17 : ∀ i, w.2.1 17 i = if i = (d : Int) then eR_r' u (u.2.1 17 d) else u.2.1 17 i := fun i => by rw [e]; rfl
        have wo : ∀ k, k ≠ 17 → w.2.1 k = u.2.1 k := fun k hk => by rw [e]; exact if_neg hk
        clear e
        have C := wr.2.1
        refine j_left_r wr.1 (hq _ w wr (hE.same (fun k _ => by rw [ws]) (wo 22 (by decide)) (by rw [ws]; exact Int.le_refl _)) (by rw [ws]) (Or.inr ⟨(eL_r_r wr.1 _).1, ?_, d + 1, by rw [ws]; exact h4, ?_⟩))
        · rw [(C.el f5).1]; exact g2.1.ext hT C
        · rw [ws]
          refine ⟨b, ⟨by rw [wo 18 (by decide)]; exact f1, f2, f3, f4, by rw [w17, if_pos rfl, ws]; exact q.2.1, by rw [wo 20 (by decide), ws]; exact f6, by rw [wo 21 (by decide)]; exact f7⟩, k1, by omega, k3.ext hT C (by rw [ws]) (fun i hi => ⟨by rw [wo 16 (by decide)], by rw [w17, if_neg (by omega)], by rw [wo 18 (by decide)], by rw [wo 19 (by decide)], by rw [wo 20 (by decide)], by rw [wo 21 (by decide)]⟩), Or.inr ⟨by rw [wo 19 (by decide)]; exact h19, n, r', ?_, ?_, by rw [wo 16 (by decide)]; exact g3, by omega⟩⟩
          · rw [w17, if_pos rfl]; exact g1.2.ext hT C q.2.1
          · rw [w17, if_pos rfl]; exact (g2.2.ext hT C q.2.1).mono (fun y hy => hy.ext hT C)
      refine br_i (fun _ => k193) fun _ => rd_i fun _ => bd_i (by omega) (by omega) (rd_i fun _ => br_i (fun _ => k193) fun hgt => bd_i (by omega) (by omega) (rd_i fun _ => ?_))
      rw [f1]
      refine sw_e_r fun w1 q1 => zt_1 (bd_i (by omega) (by omega) (sw_e_r fun w2 q2 => rd_i fun _ => ?_))
      have wr : RG_r evS_r evR_r u w2 := by
        rw [q2, q1]
        exact ((RG_r.rf hT).I _ (by decide) (by decide) (by decide)).A _ _ (by decide) (by decide)
      have w5 : w2.1 5 = b := by rw [q2, q1]; rfl
      have ws : ∀ k, k ≠ 5 → w2.1 k = u.1 k := fun k hk => by rw [q2, q1]; exact if_neg hk
      have w19 : ∀ i, w2.2.1 19 i = if i = (d : Int) then 1 else u.2.1 19 i := fun i => by rw [q2, q1]; rfl
      have wo : ∀ k, k ≠ 19 → w2.2.1 k = u.2.1 k := fun k hk => by rw [q2, q1]; exact if_neg hk
      clear q1 q2
      have C := wr.2.1
      have wT := wr.1
      rw [w5]
      have wE : EN2_r w2 := ⟨by rw [ws 4 (by decide)]; exact e1, by omega, by omega, by rw [ws 6 (by decide), ws 0 (by decide)]; exact e4, by rw [ws 7 (by decide)]; exact e5, by rw [ws 8 (by decide)]; exact e6, fun i i0 i1 => by rw [wo 22 (by decide), ws 29 (by decide)]; exact e7 i i0 (by omega)⟩
      have pend : ∀ t, 0 ≤ t → WF_r w2 t → Q t w2 := fun t t0 tw => hq t w2 wr wE (ws 9 (by decide)) (Or.inr ⟨t0, tw, d + 1, by rw [ws 4 (by decide)]; exact h4, by
        rw [w5]
        exact ⟨b, ⟨by rw [wo 18 (by decide)]; exact f1, f2, f3, f4, by rw [wo 17 (by decide), ws 29 (by decide)]; exact f5, by rw [wo 20 (by decide), ws 0 (by decide)]; exact f6, by rw [wo 21 (by decide)]; exact f7⟩, Int.le_refl _, by omega, k3.ext hT C (ws 0 (by decide)) (fun i hi => ⟨by rw [wo 16 (by decide)], by rw [wo 17 (by decide)], by rw [wo 18 (by decide)], by rw [w19, if_neg (by omega)], by rw [wo 20 (by decide)], by rw [wo 21 (by decide)]⟩), Or.inl (by rw [w19, if_pos rfl]; decide)⟩⟩)
      refine bd_i f2 (by omega) (rd_i fun _ => br_i (fun _ => j_right_r wT (j_left_r wT (pend _ (eL_r_r wT _).1 ?_))) fun _ => j_left_r wT (pend _ (eL_r_r wT _).1 ?_))
      · have e1 := (C.el f5).2
        rw [e1, (C.el q.2.1).1]
        cases r' with
        | zero =>
          have np : ¬ pr_r u (eR_r' u (u.2.1 17 d)) := g1.2
          have e0 : eL_r' u (eR_r' u (u.2.1 17 d)) = 0 := if_neg np
          rw [e0]
          exact WF_r.nil wT
        | succ r' => exact g2.2.1.ext hT C
      · rw [(C.el f5).1]; exact g2.1.ext hT C
    · -- the body
      have er : r = 0 := by
        cases r with
        | zero => rfl
        | succ r => exact absurd g1.1 hp
      subst er
      have s1 : w1.1 = u.1 ∧ w1.2.2 = u.2.2 ∧ (∀ k, k ≠ 19 → w1.2.1 k = u.2.1 k) ∧ ∀ i, w1.2.1 19 i = if i = (d : Int) then 1 else u.2.1 19 i := by rw [q1]; exact ⟨rfl, rfl, fun k hk => if_neg hk, fun _ => rfl⟩
      have r1 : RG_r evS_r evR_r u w1 := by rw [q1]; exact (RG_r.rf hT).A _ _ (by decide) (by decide)
      clear q1
      refine j_functionOf_r (by rw [s1.1]; exact hB.1.1.1) (by rw [s1.1]; exact b40) fun o ho => sw_e_r fun w2 q2 => bd_i (by omega) (by omega) (rd_i fun _ => ?_)
      have s2 : w2.2 = w1.2 ∧ w2.1 6 = o ∧ ∀ k, k ≠ 6 → w2.1 k = u.1 k := by rw [q2, ← s1.1]; exact ⟨rfl, rfl, fun k hk => if_neg hk⟩
      have r2 : RG_r evS_r evR_r u w2 := by rw [q2]; exact r1.I _ (by decide) (by decide) (by decide)
      clear q2
      rw [s2.1, s1.2.2.1 18 (by decide), f1]
      refine sw_e_r fun w3 q3 => rd_i fun _ => ?_
      have s3 : w3.2 = w1.2 ∧ w3.1 7 = b ∧ w3.1 6 = o ∧ ∀ k, k ≠ 6 → k ≠ 7 → w3.1 k = u.1 k := by rw [q3]; exact ⟨s2.1, rfl, s2.2.1, fun k h6 h7 => (if_neg h7).trans (s2.2.2 k h6)⟩
      have r3 : RG_r evS_r evR_r u w3 := by rw [q3]; exact r2.I _ (by decide) (by decide) (by decide)
      clear q3
      have C := r3.2.1
      have o2 : -1 ≤ o ∧ o < u.1 0 := by
        rw [s1.1] at ho
        have := hB.1.1.1
        rcases ho with z | z <;> omega
      have wo : ∀ k, k ≠ 19 → w3.2.1 k = u.2.1 k := fun k hk => by rw [s3.1]; exact s1.2.2.1 k hk
      have w19 : ∀ i, w3.2.1 19 i = if i = (d : Int) then 1 else u.2.1 19 i := fun i => by rw [s3.1]; exact s1.2.2.2 i
      have so := s3.2.2.2
      have wE : EN2_r w3 := ⟨by rw [so 4 (by decide) (by decide)]; exact e1, by rw [so 5 (by decide) (by decide)]; exact e2, by rw [so 5 (by decide) (by decide)]; exact e3, by rw [s3.2.2.1, so 0 (by decide) (by decide)]; exact o2, by rw [s3.2.1]; exact f2, by rw [so 8 (by decide) (by decide)]; exact e6, fun i i0 i1 => by rw [wo 22 (by decide), so 29 (by decide) (by decide)]; rw [so 5 (by decide) (by decide)] at i1; exact e7 i i0 i1⟩
      have pend : ∀ t, 0 ≤ t → WF_r w3 t → Q t w3 := fun t t0 tw => hq t w3 r3 wE (so 9 (by decide) (by decide)) (Or.inr ⟨t0, tw, d + 1, by rw [so 4 (by decide) (by decide)]; exact h4, by
        rw [so 5 (by decide) (by decide)]
        exact ⟨b, ⟨by rw [wo 18 (by decide)]; exact f1, f2, f3, f4, by rw [wo 17 (by decide), so 29 (by decide) (by decide)]; exact f5, by rw [wo 20 (by decide), so 0 (by decide) (by decide)]; exact f6, by rw [wo 21 (by decide)]; exact f7⟩, k1, by omega, k3.ext hT C (so 0 (by decide) (by decide)) (fun i hi => ⟨by rw [wo 16 (by decide)], by rw [wo 17 (by decide)], by rw [wo 18 (by decide)], by rw [w19, if_neg (by omega)], by rw [wo 20 (by decide)], by rw [wo 21 (by decide)]⟩), Or.inl (by rw [w19, if_pos rfl]; decide)⟩⟩)
      rw [s3.2.2.1]
      refine br_i (fun ho1 => rd_i fun _ => ?_) fun _ => pend 0 (Int.le_refl _) (WF_r.nil r3.1)
      refine bd_i (by omega) (by omega) (rd_i fun _ => ?_)
      rw [wo 3 (by decide)]
      have B := hB.2 o (by omega) o2.2
      exact pend _ B.2 (B.1.ext hT C)
  · have := (k4.resolve_right (fun z => h19 z.1)).2
    omega
theorem j_evaluated_r [DecidableEq Ob] {u : iST} {x y : Int} {Q : Int → iST → Prop} (hT : RT_r u) (hB : BE_r u) (x0 : 0 ≤ x) (hx : WF_r u x) (hy : 0 ≤ y) (hq : ∀ t v, RG_r evS_r evR_r u v → t < v.1 29 → Q t v) : v_2_evaluated x y Q u := by
  unfold v_2_evaluated
  refine sw_e_r fun w1 q1 => sw_e_r fun w2 q2 => sw_e_r fun w3 q3 => sw_e_r fun w4 q4 => sw_e_r fun w5 q5 => sw_e_r fun w6 q6 => ?_
  have wr : RG_r evS_r evR_r u w6 := by
    rw [q6, q5, q4, q3, q2, q1]
    exact ((((((RG_r.rf hT).I _ (by decide) (by decide) (by decide)).I _ (by decide) (by decide) (by decide)).I _ (by decide) (by decide) (by decide)).I _ (by decide) (by decide) (by decide)).I _ (by decide) (by decide) (by decide)).I _ (by decide) (by decide) (by decide)
  have n4 : w6.1 4 = 0 := by rw [q6, q5, q4, q3, q2, q1]; rfl
  have n5 : w6.1 5 = 0 := by rw [q6, q5, q4, q3, q2, q1]; rfl
  have n6 : w6.1 6 = -1 := by rw [q6, q5, q4, q3, q2, q1]; rfl
  have n7 : w6.1 7 = 0 := by rw [q6, q5, q4, q3, q2, q1]; rfl
  have n8 : w6.1 8 = y := by rw [q6, q5, q4, q3, q2, q1]; rfl
  clear q1 q2 q3 q4 q5 q6
  have b0 := hB.1.1.1
  have wE : EN2_r w6 := ⟨by omega, by omega, by omega, by rw [n6, wr.s 0 (by decide)]; omega, by omega, by omega, fun i i0 i1 => by omega⟩
  have none : ∀ v, RG_r evS_r evR_r u v → Q (-1) v := fun v hv => hq (-1) v hv (by have := hv.1.1.1; omega)
  unfold v_2_evaluated_35
  refine lf2 (B := fun R y3 y4 u => v_2_evaluated_35b R Q y3 y4 u) (fun y3 y4 v => 0 ≤ y4 ∧ RG_r evS_r evR_r u v ∧ (v.1 9 ≠ 0 ∨ (EN2_r v ∧ ((y3 = -1 ∧ ∃ e : Nat, v.1 4 = e ∧ ET_r v e (v.1 5)) ∨ (0 ≤ y3 ∧ WF_r v y3 ∧ ∃ e : Nat, v.1 4 = e ∧ EK_r v e (v.1 5)))))) (fun _ y4 _ => (1000000 - y4).toNat) ?_ ⟨Int.le_refl _, wr, Or.inr ⟨wE, Or.inr ⟨x0, hx.ext hT wr.2.1, 0, n4, n5⟩⟩⟩
  intro y3 y4 v hI R ih
  obtain ⟨p4, vr, hv⟩ := hI
  have vT := vr.1
  have vB : BE_r v := hB.rg hT vr (by decide) (by decide) (by decide) (by decide) (by decide)
  unfold v_2_evaluated_35b
  refine br_i (fun _ => none v vr) fun hlt => rd_i fun _ => br_i (fun _ => none v vr) fun h9 => ?_
  have h9 := Classical.not_not.mp h9
  obtain ⟨vE, hv⟩ := hv.resolve_left (fun z => z h9)
  have nx : ∀ t z, RG_r evS_r evR_r u z → (z.1 9 ≠ 0 ∨ (EN2_r z ∧ ((t = -1 ∧ ∃ e : Nat, z.1 4 = e ∧ ET_r z e (z.1 5)) ∨ (0 ≤ t ∧ WF_r z t ∧ ∃ e : Nat, z.1 4 = e ∧ EK_r z e (z.1 5))))) → ov (y4 + 1) (R t (y4 + 1) z) := fun t z h1 h2 => ov_i (by omega) (by omega) (ih _ _ _ ⟨by omega, h1, h2⟩ (by omega))
  refine br_i (fun h3 => ?_) fun h3 => ?_
  · obtain ⟨_, e, g4, gT⟩ := hv.resolve_right (fun z => by have := z.1; omega)
    refine rd_i fun _ => ?_
    rw [g4]
    refine br_i (fun hd => rd_i fun _ => ?_) fun hd => ?_
    · obtain ⟨d, rfl⟩ : ∃ d, e = d + 1 := ⟨e - 1, by omega⟩
      have g4' : v.1 4 = (d : Int) + 1 := by omega
      obtain ⟨b, hF, k1, k2, k3, k4⟩ := gT
      have gT : ET_r v (d + 1) (v.1 5) := ⟨b, hF, k1, k2, k3, k4⟩
      rw [show ((d + 1 : Nat) : Int) - 1 = d from by omega]
      refine ov_i (by omega) (by omega) (j_isReady_r vT hF.2.2.2.1 (br_y rfl (rd_i fun _ => ?_)) fun h19 hnp => br_n (by decide) (rd_i fun _ => ?_))
      · rw [g4, show ((d + 1 : Nat) : Int) - 1 = d from by omega]
        exact ov_i (by omega) (by omega) (j_goOn_r vT vB vE g4' gT fun t z hz zE z9 hzz => nx t z (vr.tr hz) (Or.inr ⟨zE, hzz⟩))
      · obtain ⟨f1, f2, f3, f4, f5, f6, f7⟩ := hF
        have hF : EFr_r v d b := ⟨f1, f2, f3, f4, f5, f6, f7⟩
        obtain ⟨_, n, r, g1, g2, g3, g6⟩ := k4.resolve_left (fun z => z.1 h19)
        have er : r = 0 := by
          cases r with
          | zero => rfl
          | succ r => exact absurd g1.1 hnp
        subst er
        obtain ⟨e1, e2, e3, e4, e5, e6, e7⟩ := vE
        have vE : EN2_r v := ⟨e1, e2, e3, e4, e5, e6, e7⟩
        rw [g4, show ((d + 1 : Nat) : Int) - 1 = d from by omega]
        refine ov_i (by omega) (by omega) (bd_i (by omega) (by omega) (rd_i fun _ => rd_i fun _ => ?_))
        rw [show ((d + 1 : Nat) : Int) - 1 = d from by omega, f1]
        refine ov_i (by omega) (by omega) (bd_i (by omega) (by omega) (rd_i fun _ => bd_i (by omega) (by omega) (rd_i fun _ => ov_i (by omega) (by omega) (bd_i (by omega) (by omega) (rd_i fun _ => ov_i (by omega) (by omega) (bd_i (by omega) (by omega) (rd_i fun _ => ?_)))))))
        have ar := g3.2
        refine j_baseValue_r vT (fun h => ?_) (fun h => ?_) fun t z hz ht => ?_
        · have := ar (by omega) (by omega)
          rw [h] at this
          have e3 : bA_r' 3 = 3 := by decide
          exact ⟨e7 _ (by omega) (by omega), e7 _ (by omega) (by omega)⟩
        · have := ar (by omega) (by omega)
          rw [h] at this
          have e3 : bA_r' 5 = 2 := by decide
          exact ⟨e7 _ (by omega) (by omega), e7 _ (by omega) (by omega)⟩
        · have zr : RG_r evS_r evR_r u z := vr.tr (hz.w (by decide) (by decide))
          have k203 : ∀ s, v_2_evaluated_203 R Q y3 y4 t s z := by
            intro s
            unfold v_2_evaluated_203
            refine sw_e_r fun a q => ?_
            have arr : RG_r evS_r evR_r u a := by rw [q]; exact zr.I _ (by decide) (by decide) (by decide)
            have az : RG_r evS_r evR_r z a := by rw [q]; exact (RG_r.rf hz.1).I _ (by decide) (by decide) (by decide)
            have as : ∀ k, k ≠ 9 → a.1 k = z.1 k := fun k hk => by rw [q]; exact if_neg hk
            have a2 : a.2 = z.2 := by rw [q]; rfl
            clear q
            have hs : ∀ k, k ≠ 9 → k ≠ 29 → k ≠ 32 → a.1 k = v.1 k := fun k h1 h2 h3 => by rw [as k h1]; exact hz.s k (by simp only [mS_r, List.mem_cons, List.not_mem_nil, or_false, not_or]; exact ⟨h2, h3⟩)
            have ha : ∀ k, k ∉ mR_r → a.2.1 k = v.2.1 k := fun k hk => by rw [a2]; exact hz.a k hk
            have C : Ce_r v a := hz.2.1.tr az.2.1
            have aE : EN2_r a := vE.same (fun k hk => hs k (fun e => by rw [e] at hk; revert hk; decide) (fun e => by rw [e] at hk; revert hk; decide) (fun e => by rw [e] at hk; revert hk; decide)) (ha 22 (by decide)) C.1
            have aF : EFr_r a d b := hF.ext C (hs 0 (by decide) (by decide) (by decide)) ⟨by rw [ha 17 (by decide)], by rw [ha 18 (by decide)], by rw [ha 20 (by decide)], by rw [ha 21 (by decide)]⟩
            refine j_close_r arr.1 aE (by rw [hs 4 (by decide) (by decide) (by decide)]; exact g4') aF (by rw [hs 5 (by decide) (by decide) (by decide)]; exact k1) (by rw [as 29 (by decide)]; exact ht) fun c cr cE c4 c5 c9 c6 => nx _ c (arr.tr cr) (Or.inr ⟨cE, Or.inl ⟨h3, d, c4, ?_⟩⟩)
            rw [c5]
            have C2 : Ce_r v c := C.tr cr.2.1
            refine (k3.ext vT C2 ((cr.s 0 (by decide)).trans (hs 0 (by decide) (by decide) (by decide))) (fun i _ => ?_)).del
            obtain ⟨m1, m2, m3, m4, m5, m6⟩ := c6 i
            exact ⟨m1.trans (by rw [ha 16 (by decide)]), m2.trans (by rw [ha 17 (by decide)]), m3.trans (by rw [ha 18 (by decide)]), m4.trans (by rw [ha 19 (by decide)]), m5.trans (by rw [ha 20 (by decide)]), m6.trans (by rw [ha 21 (by decide)])⟩
          exact br_i (fun _ => k203 0) fun _ => k203 3
    · have ed : e = 0 := by omega
      subst ed
      have h5 : v.1 5 = 1 := gT
      exact bd_i (by decide) (by decide) (rd_i fun _ => hq _ v vr (vE.2.2.2.2.2.2 0 (Int.le_refl _) (by omega)))
  · obtain ⟨t0, tw, e, g4, gK⟩ := hv.resolve_left (fun z => h3 z.1)
    have tl := tw.st.1
    have gr := gK.r
    have k101 : ∀ a, a < v.1 29 → v_2_evaluated_101 R Q y4 a v := by
      intro a ha
      unfold v_2_evaluated_101
      refine j_hold_r vT vE ha (by omega) fun z zr zE z5 z4 z9 zC z6 => ?_
      unfold v_2_evaluated_104
      exact nx (-1) z (vr.tr zr) (Or.inr ⟨zE, Or.inl ⟨rfl, e, by rw [z4]; exact g4, by rw [z5]; exact (gK.ext vT zC (zr.s 0 (by decide)) (fun i _ => z6 i)).del⟩⟩)
    refine j_isCall_r vT (fun hp h2 => br_n (by decide) (j_begin2_r vT vB.1 vE g4 gK tw hp h2 fun z zr zE hz => ?_)) fun _ => br_y rfl (j_isVariable_r vT fun b _ _ => br_i (fun _ => j_valueOf_r vT tl fun a ha _ => k101 a ha) fun _ => j_parameterValue_r vT vB.1 vE fun a ha => k101 a ha)
    unfold v_2_evaluated_104
    refine nx (-1) z (vr.tr zr) (hz.imp id (fun ⟨z9, z4, zK⟩ => ⟨zE, Or.inl ⟨rfl, e + 1, by omega, zK⟩⟩))

