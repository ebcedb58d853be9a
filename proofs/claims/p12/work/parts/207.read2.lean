/-! deliver, close, atom, readWord, reads -/
theorem g_deliver44 {x : Int} {Q : iST → Prop} {u : iST} (h : RI u) (x0 : 0 ≤ x) (x1 : x < u.1 8) (hi : u.1 32 < 1000) (hq : ∀ v, RI v → Fx fR u v → Ext u v → Szs u v → Phi v ≤ Phi u + 1 → v.1 32 ≤ u.1 32 + 1 → v.1 6 = u.1 6 → v.1 11 = u.1 11 → v.1 23 = u.1 23 → v.1 14 = u.1 14 → Psi v ≤ Psi u + wA u x → Q v) : w_deliver_44 Q x u := by
  have hRI := h
  have hwh := wh_r h
  have hwx := w_pos h.1 x0 x1
  obtain ⟨r1, r2, r3, r4, r5, r6, r7, r8, r9⟩ := h
  have ePu : Psi u = sumI u (u.1 32).toNat + sumO u (u.1 30).toNat + wh u := rfl
  unfold w_deliver_44
  refine rd_i fun _ => br_i (fun hc => ?_) (fun hc => ?_)
  · refine rd_i fun _ => ov_i (by omega) (by omega) (bd_i (by omega) (by omega) (rd_i fun _ => br_i (fun hd => ?_) (fun hd => ?_)))
    · refine rd_i fun _ => bd_i (by omega) (by omega) (sw_i (rd_i fun _ => ov_i (show -2147483648 ≤ u.1 32 + 1 by omega) (show u.1 32 + 1 < 2147483648 by omega) (sw_i ?_)))
      refine hq _ ⟨r1, r2, r3, ⟨show 0 ≤ u.1 32 + 1 by omega, show u.1 32 + 1 ≤ 1000 by omega⟩, fun j j0 j1 => ?_, fun i i0 i1 => ?_, r7, r8, r9⟩ ((Fx_A (k := 31) rfl).tr (Fx_I (k := 32) rfl)) (Ext.rf u) (Szs.rf u) (by show u.1 8 + (u.1 32 + 1) + 3 * u.1 30 ≤ u.1 8 + u.1 32 + 3 * u.1 30 + 1; omega) (show u.1 32 + 1 ≤ u.1 32 + 1 by omega) rfl rfl rfl rfl ?_
      · have j1 : j < u.1 32 + 1 := j1
        show 0 ≤ (if j = u.1 32 then x else u.2.1 31 j) ∧ (if j = u.1 32 then x else u.2.1 31 j) < u.1 8
        by_cases e : j = u.1 32
        · rw [if_pos e]; exact ⟨x0, x1⟩
        · rw [if_neg e]; exact r5 j j0 (by omega)
      · obtain ⟨q1, q2, q3⟩ := r6 i i0 i1
        exact ⟨q1, show u.2.1 27 i ≤ u.1 32 + 1 by omega, q3⟩
      · show Psi (iI (iA u 31 (u.1 32) x) 32 (u.1 32 + 1)) ≤ _
        generalize hv : iI (iA u 31 (u.1 32) x) 32 (u.1 32 + 1) = v
        have v31 : ∀ j, v.2.1 31 j = if j = u.1 32 then x else u.2.1 31 j := fun j => by rw [← hv]; rfl
        have v28 : v.2.1 28 = u.2.1 28 := by rw [← hv]; rfl
        have v29 : v.2.1 29 = u.2.1 29 := by rw [← hv]; rfl
        have v32 : v.1 32 = u.1 32 + 1 := by rw [← hv]; rfl
        have v30 : v.1 30 = u.1 30 := by rw [← hv]; rfl
        have v33 : v.1 33 = u.1 33 := by rw [← hv]; rfl
        have v34 : v.1 34 = u.1 34 := by rw [← hv]; rfl
        have hV : TI v := by rw [← hv]; exact r1
        have hE : Ext u v := by rw [← hv]; exact Ext.rf u
        clear hv
        have e1 : sumI v (u.1 32).toNat = sumI u (u.1 32).toNat := sumI_eq r1 hV hE _ (fun j hj => ⟨by rw [v31, if_neg (by omega)], r5 j (by omega) (by omega)⟩)
        have e2 : sumO v (u.1 30).toNat = sumO u (u.1 30).toNat := sumO_eq r1 hV hE _ (fun j hj => ⟨by rw [v28], by rw [v29], (r6 j (by omega) (by omega)).2.2⟩)
        have e3 : wh v = wh u := by
          unfold wh
          rw [v33, v34]
          split
          · next z => rw [(w_ext r1 hV hE (r8 z).1 (r8 z).2).1]
          · rfl
        unfold Psi
        rw [v32, v30, show (u.1 32 + 1).toNat = (u.1 32).toNat + 1 from by omega]
        show sumI v (u.1 32).toNat + wA v (v.2.1 31 ((u.1 32).toNat : Int)) + sumO v (u.1 30).toNat + wh v ≤ _
        rw [e1, e2, e3, v31, if_pos (by omega), (w_ext r1 hV hE x0 x1).1]
        have ePu' : sumI u (u.1 32).toNat + sumO u (u.1 30).toNat + wh u = Psi u := rfl
        omega
    · refine rd_i fun _ => ov_i (by omega) (by omega) (bd_i (by omega) (by omega) (sw_i (rd_i fun _ => ov_i (show -2147483648 ≤ u.1 30 - 1 by omega) (show u.1 30 - 1 < 2147483648 by omega) (bd_i (show 0 ≤ u.1 30 - 1 by omega) (show u.1 30 - 1 < 40 by omega) (sw_i ?_)))))
      refine hq _ ⟨r1, r2, r3, r4, r5, fun i i0 i1 => ?_, r7, r8, r9⟩ ((Fx_A (k := 29) rfl).tr (Fx_A (k := 28) rfl)) (Ext.rf u) (Szs.rf u) (by show u.1 8 + u.1 32 + 3 * u.1 30 ≤ u.1 8 + u.1 32 + 3 * u.1 30 + 1; omega) (show u.1 32 ≤ u.1 32 + 1 by omega) rfl rfl rfl rfl ?_
      rotate_left
      · show Psi (iA (iA u 29 (u.1 30 - 1) x) 28 (u.1 30 - 1) 2) ≤ _
        generalize hv : iA (iA u 29 (u.1 30 - 1) x) 28 (u.1 30 - 1) 2 = v
        have v31 : v.2.1 31 = u.2.1 31 := by rw [← hv]; rfl
        have v28 : ∀ j, v.2.1 28 j = if j = u.1 30 - 1 then 2 else u.2.1 28 j := fun j => by rw [← hv]; rfl
        have v29 : ∀ j, v.2.1 29 j = if j = u.1 30 - 1 then x else u.2.1 29 j := fun j => by rw [← hv]; rfl
        have v1 : v.1 = u.1 := by rw [← hv]; rfl
        have hV : TI v := by rw [← hv]; exact r1
        have hE : Ext u v := by rw [← hv]; exact Ext.rf u
        clear hv
        obtain ⟨n, hn⟩ : ∃ n : Nat, u.1 30 = n + 1 := ⟨(u.1 30 - 1).toNat, by omega⟩
        have e1 : sumI v (u.1 32).toNat = sumI u (u.1 32).toNat := sumI_eq r1 hV hE _ (fun j hj => ⟨by rw [v31], r5 j (by omega) (by omega)⟩)
        have e2 : sumO v n = sumO u n := sumO_eq r1 hV hE _ (fun j hj => ⟨by rw [v28, if_neg (by omega)], by rw [v29, if_neg (by omega)], (r6 j (by omega) (by omega)).2.2⟩)
        have e3 : wh v = wh u := by
          unfold wh
          rw [v1]
          split
          · next z => rw [(w_ext r1 hV hE (r8 z).1 (r8 z).2).1]
          · rfl
        have z28 : v.2.1 28 (n : Int) = 2 := by rw [v28, if_pos (by omega)]
        have z29 : v.2.1 29 (n : Int) = x := by rw [v29, if_pos (by omega)]
        have e4 : lst v (n : Int) = wB u x := by
          unfold lst
          rw [if_pos z28, z29, (w_ext r1 hV hE x0 x1).2]
        have e5 : lst u (n : Int) = 0 := by
          unfold lst
          rw [if_neg]
          rw [show (n : Int) = u.1 30 - 1 from by omega]
          omega
        have e6 : sumO u (u.1 30).toNat = sumO u n + 1 + lst u (n : Int) := by rw [show (u.1 30).toNat = n + 1 from by omega]; rfl
        have e7 : sumO v (u.1 30).toNat = sumO v n + 1 + lst v (n : Int) := by rw [show (u.1 30).toNat = n + 1 from by omega]; rfl
        have ePv : Psi v = sumI v (u.1 32).toNat + sumO v (u.1 30).toNat + wh v := by unfold Psi; rw [v1]
        rw [ePv, e7, e1, e2, e3, e4, ePu, e6, e5]
        omega
      obtain ⟨q1, q2, q3⟩ := r6 i i0 i1
      refine ⟨q1, q2, ?_⟩
      show (if i = u.1 30 - 1 then 2 else u.2.1 28 i) = 2 → 0 ≤ (if i = u.1 30 - 1 then x else u.2.1 29 i) ∧ (if i = u.1 30 - 1 then x else u.2.1 29 i) < u.1 8
      by_cases e : i = u.1 30 - 1
      · rw [if_pos e, if_pos e]; exact fun _ => ⟨x0, x1⟩
      · rw [if_neg e, if_neg e]; exact q3
  · refine sw_i (zt_1 (sw_i ?_))
    exact hq _ ⟨r1, r2, r3, r4, r5, r6, r7, fun _ => ⟨x0, x1⟩, r9⟩ ((Fx_I (k := 33) rfl).tr (Fx_I (k := 34) rfl)) (Ext.rf u) (Szs.rf u) (by show u.1 8 + u.1 32 + 3 * u.1 30 ≤ u.1 8 + u.1 32 + 3 * u.1 30 + 1; omega) (show u.1 32 ≤ u.1 32 + 1 by omega) rfl rfl rfl rfl (by
      have hV : TI (iI (iI u 33 x) 34 1) := r1
      have hE : Ext u (iI (iI u 33 x) 34 1) := Ext.rf u
      have e1 : sumI (iI (iI u 33 x) 34 1) (u.1 32).toNat = sumI u (u.1 32).toNat := sumI_eq r1 hV hE _ (fun j hj => ⟨rfl, r5 j (by omega) (by omega)⟩)
      have e2 : sumO (iI (iI u 33 x) 34 1) (u.1 30).toNat = sumO u (u.1 30).toNat := sumO_eq r1 hV hE _ (fun j hj => ⟨rfl, rfl, (r6 j (by omega) (by omega)).2.2⟩)
      have e3 : wh (iI (iI u 33 x) 34 1) = wA u x := by
        show (if (1 : Int) ≠ 0 then wA (iI (iI u 33 x) 34 1) x else 0) = _
        rw [if_pos (by decide), (w_ext r1 hV hE x0 x1).1]
      show sumI (iI (iI u 33 x) 34 1) (u.1 32).toNat + sumO (iI (iI u 33 x) 34 1) (u.1 30).toNat + wh (iI (iI u 33 x) 34 1) ≤ _
      rw [e1, e2, e3, ePu]
      omega)
theorem lst_r {u : iST} (h : RI u) {i : Int} (i0 : 0 ≤ i) (i1 : i < u.1 30) : 0 ≤ lst u i := by
  unfold lst
  split
  · next z => have := (h.2.2.2.2.2.1 i i0 i1).2.2 z; exact (w_pos h.1 this.1 this.2).2.1
  · exact Int.le_refl _
theorem RI_pop {u : iST} (h : RI u) (h0 : 0 < u.1 30) : RI (iI u 30 (u.1 30 - 1)) := by
  obtain ⟨r1, r2, r3, r4, r5, r6, r7, r8, r9⟩ := h
  exact ⟨r1, r2, ⟨show 0 ≤ u.1 30 - 1 by omega, show u.1 30 - 1 ≤ 40 by omega⟩, r4, r5, fun i i0 i1 => r6 i i0 (by have i1 : i < u.1 30 - 1 := i1; omega), fun i j i0 ij j1 => r7 i j i0 ij (by have j1 : j < u.1 30 - 1 := j1; omega), r8, r9⟩
theorem g_deliver {x : Int} {Q : iST → Prop} {u : iST} (h : RI u) (x0 : 0 ≤ x) (x1 : x < u.1 8) (hi : u.1 32 < 1000) (hn : Phi u < 451000) (hq : ∀ v, RI v → Fx fR u v → Ext u v → Szs u v → Phi v ≤ Phi u + 1 → v.1 32 ≤ u.1 32 + 1 → v.1 6 = u.1 6 → v.1 11 = u.1 11 → v.1 23 = u.1 23 → v.1 14 = u.1 14 → Psi v ≤ Psi u + wA u x → Q v) : w_deliver x Q u := by
  unfold w_deliver w_deliver_2
  refine lf1 (B := fun R x1 u => w_deliver_2b R Q x1 u) (fun y v => RI v ∧ 0 ≤ y ∧ y < v.1 8 ∧ Fx fR u v ∧ Ext u v ∧ Szs u v ∧ Phi v ≤ Phi u ∧ v.1 32 = u.1 32 ∧ v.1 6 = u.1 6 ∧ v.1 11 = u.1 11 ∧ v.1 23 = u.1 23 ∧ v.1 14 = u.1 14 ∧ Psi v + wA v y ≤ Psi u + wA u x) (fun _ v => (v.1 30).toNat) ?_ ⟨h, x0, x1, Fx.rf _ _, Ext.rf _, Szs.rf _, Int.le_refl _, rfl, rfl, rfl, rfl, rfl, Int.le_refl _⟩
  intro y v hI R ih
  obtain ⟨p1, p2, p3, p4, p5, p6, p7, p8, p9, p10, p11, p12, p13⟩ := hI
  have k44 : w_deliver_44 Q y v := g_deliver44 p1 p2 p3 (by omega) fun w a1 a2 a3 a4 a5 a6 a7 a8 a9 a10 a11 => hq w a1 (p4.tr a2) (p5.tr a3) (p6.tr a4 (by have := h.1.1; omega) p5.1.1 a3.1.1) (by omega) (by omega) (by omega) (by omega) (by omega) (by omega) (by omega)
  have hr3 := p1.2.2.1
  have hr4 := p1.2.2.2.1
  have h44 := p1.1.1
  unfold w_deliver_2b
  refine rd_i fun _ => br_i (fun _ => k44) fun hc => rd_i fun _ => ov_i (by omega) (by omega) (bd_i (by omega) (by omega) (rd_i fun _ => br_i (fun _ => k44) fun hd => ?_))
  have hphi : Phi v = v.1 8 + v.1 32 + 3 * v.1 30 := rfl
  refine g_list2 p1.1 (by omega) (by decide) (by omega) p2 p3 fun k w hg k0 k1 s1 s2 s3 s4 _ => ?_
  have e30 : w.1 30 = v.1 30 := fx_s hg.2.2.2.1 30 rfl
  have e32 : w.1 32 = v.1 32 := fx_s hg.2.2.2.1 32 rfl
  have e23 : w.1 23 = v.1 23 := fx_s hg.2.2.2.1 23 rfl
  have e14 : w.1 14 = v.1 14 := fx_s hg.2.2.2.1 14 rfl
  have hw : RI w := RI_grow p1 hg.1 hg.2.1.1.1 (fT_12 hg.2.2.2.1)
  have g6 := hg.2.2.2.2.2.1
  have g6b := hg.2.1.1.2.1
  have g8 := hg.2.2.2.2.1
  refine rd_i fun _ => ov_i (by omega) (by omega) (sw_i ?_)
  have eP : Psi w = Psi v := Psi_grow p1 hg.1 hg.2.1 (fT_12 hg.2.2.2.1)
  have pop := Psi_pop hw (by omega)
  have lr := lst_r hw (i := w.1 30 - 1) (by omega) (by omega)
  have hQ : Quo w k := ⟨by omega, s1, by rw [s3]; exact p2, s4⟩
  have eA : wA w k = 1 + wA v y := by rw [wA_quo hg.1 k0 k1 hQ, s3, (w_ext p1.1 hg.1 hg.2.1 p2 p3).1]
  refine ih _ _ ⟨RI_pop hw (by omega), k0, k1, (p4.tr (fT_R hg.2.2.2.1)).tr (Fx_I (k := 30) rfl), p5.tr hg.2.1, p6.tr hg.2.2.1 (by have := h.1.1; omega) p5.1.1 hg.2.1.1.1, ?_, ?_, ?_, ?_, ?_, ?_, ?_⟩ (show (w.1 30 - 1).toNat < (v.1 30).toNat by omega)
  · show w.1 8 + w.1 32 + 3 * (w.1 30 - 1) ≤ Phi u
    omega
  · exact e32.trans p8
  · show w.1 6 = u.1 6
    omega
  · exact hg.2.2.2.2.2.2.trans p10
  · exact e23.trans p11
  · exact e14.trans p12
  · have e : wA (iI w 30 (w.1 30 - 1)) k = wA w k := (w_ext (u := w) (v := iI w 30 (w.1 30 - 1)) hg.1 hg.1 (Ext.rf w) k0 k1).1
    rw [e]
    omega
theorem g_close {Q : iST → Prop} {u : iST} (h : RI u) (h0 : 0 < u.1 30) (hn : Phi u < 451000) (hq : ∀ v, RI v → Fx fR u v → Ext u v → Szs u v → Phi v ≤ Phi u → v.1 32 ≤ u.1 32 + 1 → v.1 6 = u.1 6 → v.1 11 = u.1 11 → v.1 23 = u.1 23 → v.1 14 = u.1 14 → Psi v ≤ Psi u + 1 → Q v) (hi : u.1 32 < 1000) : w_close Q u := by
  have r3 := h.2.2.1
  have h44 := h.1.1
  have key : ∀ y, 0 ≤ y → y < u.1 8 → wB u y ≤ lst u (u.1 30 - 1) → w_close_27 Q (u.1 30 - 1) y u := by
    intro y y0 y1 yB
    unfold w_close_27 w_close_28
    refine lf2 (B := fun R x1 x2 u => w_close_28b R Q x1 x2 u) (fun x1 x2 v => x1 = u.1 30 - 1 ∧ RI v ∧ 0 ≤ x2 ∧ x2 < v.1 8 ∧ Fx fR u v ∧ Ext u v ∧ Szs u v ∧ Phi v ≤ Phi u ∧ v.1 32 ≤ u.1 32 ∧ v.1 30 = u.1 30 ∧ v.1 6 = u.1 6 ∧ v.1 11 = u.1 11 ∧ v.1 23 = u.1 23 ∧ v.1 14 = u.1 14 ∧ v.2.1 27 = u.2.1 27 ∧ u.2.1 27 (u.1 30 - 1) ≤ v.1 32 ∧ Psi v + wB v x2 ≤ Psi u + lst u (u.1 30 - 1) ∧ lst v (u.1 30 - 1) = lst u (u.1 30 - 1)) (fun _ _ v => (v.1 32).toNat) ?_ ⟨rfl, h, y0, y1, Fx.rf _ _, Ext.rf _, Szs.rf _, Int.le_refl _, Int.le_refl _, rfl, rfl, rfl, rfl, rfl, rfl, (h.2.2.2.2.2.1 _ (by omega) (by omega)).2.1, by omega, rfl⟩
    intro x1 x2 v hI R ih
    obtain ⟨rfl, p1, p2, p3, p4, p5, p6, p7, p8, p8a, p9, p10, p11, p12, p13, p14, p15, p16⟩ := hI
    have hr := p1
    obtain ⟨r1, r2, r3v, r4, r5, r6, r7, r8, r9⟩ := hr
    unfold w_close_28b
    refine rd_i fun _ => bd_i (by omega) (by omega) (rd_i fun _ => br_i (fun hc => ?_) (fun hc => ?_))
    · have hp := RI_pop p1 (by omega)
      refine rd_i fun _ => ov_i (by omega) (by omega) (sw_i ?_)
      have hphi : Phi (iI v 30 (v.1 30 - 1)) = Phi v - 3 := by show v.1 8 + v.1 32 + 3 * (v.1 30 - 1) = v.1 8 + v.1 32 + 3 * v.1 30 - 3; omega
      refine g_deliver hp p2 p3 (show v.1 32 < 1000 by omega) (by omega) fun w a1 a2 a3 a4 a5 a6 a7 a8 a9 a10 a11 => hq w a1 ((p4.tr (Fx_I (k := 30) rfl)).tr a2) (p5.tr a3) (p6.tr a4 (by omega) p5.1.1 a3.1.1) (by omega) ?_ (a7.trans p9) (a8.trans p10) (a9.trans p11) (a10.trans p12) (by
        have pop := Psi_pop p1 (by omega)
        have eA : wA (iI v 30 (v.1 30 - 1)) x2 = wA v x2 := (w_ext (u := v) (v := iI v 30 (v.1 30 - 1)) r1 r1 (Ext.rf v) p2 p3).1
        have lA := wA_le r1 p2 p3
        rw [p8a, p16] at pop
        rw [eA, p8a] at a11
        omega)
      have a6 : w.1 32 ≤ v.1 32 + 1 := a6
      omega
    · rw [p13] at hc
      have hfr := r6 (u.1 30 - 1) (by omega) (by omega)
      rw [p13] at hfr
      refine rd_i fun _ => ov_i (by omega) (by omega) (sw_i (rd_i fun _ => bd_i (show 0 ≤ v.1 32 - 1 by omega) (show v.1 32 - 1 < 1100 by omega) (rd_i fun _ => ?_)))
      have hit := r5 (v.1 32 - 1) (by omega) (by omega)
      have hphi : Phi v = v.1 8 + v.1 32 + 3 * v.1 30 := rfl
      have hw0 : RI (iI v 32 (v.1 32 - 1)) ∨ True := Or.inr trivial
      refine g_pair (u := iI v 32 (v.1 32 - 1)) r1 (show v.1 8 < 452000 by omega) hit.1 hit.2 p2 p3 fun k w hg k0 k1 s1 s2 _ => ?_
      have e30 : w.1 30 = v.1 30 := fx_s hg.2.2.2.1 30 rfl
      have e32 : w.1 32 = v.1 32 - 1 := fx_s hg.2.2.2.1 32 rfl
      have e27 : w.2.1 27 = v.2.1 27 := fx_a hg.2.2.2.1 27 rfl
      have g6 : w.1 6 ≤ v.1 6 + 0 := hg.2.2.2.2.2.1
      have g6b : v.1 6 ≤ w.1 6 := hg.2.1.1.2.1
      have g8 : w.1 8 ≤ v.1 8 + 1 := hg.2.2.2.2.1
      have g8b : v.1 8 ≤ w.1 8 := hg.2.1.1.1
      have s := fun k (hk : 12 ≤ k) => hg.2.2.2.1 k (show fT k = false by simp [fT]; omega)
      have hw : RI w := by
        have s14 : w.1 14 = v.1 14 := (s 14 (by decide)).1
        have s23 : w.1 23 = v.1 23 := (s 23 (by decide)).1
        have s33 : w.1 33 = v.1 33 := (s 33 (by decide)).1
        have s34 : w.1 34 = v.1 34 := (s 34 (by decide)).1
        have a31 : w.2.1 31 = v.2.1 31 := (s 31 (by decide)).2
        have a28 : w.2.1 28 = v.2.1 28 := (s 28 (by decide)).2
        have a29 : w.2.1 29 = v.2.1 29 := (s 29 (by decide)).2
        have a13 : w.2.1 13 = v.2.1 13 := (s 13 (by decide)).2
        unfold RI
        rw [s14, s23, s33, s34, e30, e32, a31, e27, a28, a29, a13]
        refine ⟨hg.1, r2, r3v, ⟨by omega, by omega⟩, fun j j0 j1 => by have := r5 j j0 (by omega); omega, fun i i0 i1 => ?_, r7, fun z => by have := r8 z; omega, r9⟩
        obtain ⟨q1, q2, q3⟩ := r6 i i0 i1
        refine ⟨q1, ?_, fun z => by have := q3 z; omega⟩
        have := r7 i (u.1 30 - 1) i0 (by omega) (by omega)
        rw [p13] at this ⊢
        omega
      refine ih _ _ _ ⟨rfl, hw, k0, k1, (p4.tr (Fx_I (k := 32) rfl)).tr (fT_R hg.2.2.2.1), p5.tr hg.2.1, p6.tr hg.2.2.1 (by omega) p5.1.1 g8b, ?_, by omega, by omega, by omega, hg.2.2.2.2.2.2.trans p10, (s 23 (by decide)).1.trans p11, (s 14 (by decide)).1.trans p12, e27.trans p13, by omega, ?_, ?_⟩ (by omega)
      rotate_left
      · have hEv : Ext v w := hg.2.1
        obtain ⟨n, hn⟩ : ∃ n : Nat, v.1 32 = n + 1 := ⟨(v.1 32 - 1).toNat, by omega⟩
        have c1 : sumI w n = sumI v n := sumI_eq r1 hg.1 hEv _ (fun j hj => ⟨by rw [(s 31 (by decide)).2]; rfl, r5 j (by omega) (by omega)⟩)
        have c2 : sumO w (v.1 30).toNat = sumO v (v.1 30).toNat := sumO_eq r1 hg.1 hEv _ (fun j hj => ⟨by rw [(s 28 (by decide)).2]; rfl, by rw [(s 29 (by decide)).2]; rfl, (r6 j (by omega) (by omega)).2.2⟩)
        have s33 : w.1 33 = v.1 33 := (s 33 (by decide)).1
        have s34 : w.1 34 = v.1 34 := (s 34 (by decide)).1
        have c3 : wh w = wh v := by
          unfold wh
          rw [s33, s34]
          split
          · next z => rw [(w_ext r1 hg.1 hEv (r8 z).1 (r8 z).2).1]
          · rfl
        have c4 : Psi v = sumI v n + wA v (v.2.1 31 (n : Int)) + sumO v (v.1 30).toNat + wh v := by unfold Psi; rw [show (v.1 32).toNat = n + 1 from by omega]; rfl
        have c5 : Psi w = sumI v n + sumO v (v.1 30).toNat + wh v := by unfold Psi; rw [e32, e30, show (v.1 32 - 1).toNat = n from by omega, c1, c2, c3]
        have s1 : w.2.1 0 k = v.2.1 31 (v.1 32 - 1) := s1
        have hk0 : 0 ≤ w.2.1 0 k := by rw [s1]; exact hit.1
        have c6 := wB_pair hg.1 k0 k1 hk0
        rw [s1, s2, (w_ext r1 hg.1 hEv hit.1 hit.2).1, (w_ext r1 hg.1 hEv p2 p3).2, show v.1 32 - 1 = (n : Int) from by omega] at c6
        omega
      · have hEv : Ext v w := hg.2.1
        rw [← p16]
        exact lst_eq r1 hg.1 hEv (by rw [(s 28 (by decide)).2]; rfl) (by rw [(s 29 (by decide)).2]; rfl) (r6 _ (by omega) (by omega)).2.2
      show w.1 8 + w.1 32 + 3 * w.1 30 ≤ Phi u
      omega
  have hk := h.2.2.2.2.2.1 (u.1 30 - 1) (by omega) (by omega)
  unfold w_close
  refine rd_i fun _ => ov_i (by omega) (by omega) (bd_i (by omega) (by omega) (rd_i fun _ => br_i (fun _ => key 0 (by omega) (by omega) (by rw [wB_nil h.1]; exact lst_r h (by omega) (by omega))) fun hd => bd_i (by omega) (by omega) (rd_i fun _ => ?_)))
  have := hk.2.2 (by omega)
  exact key _ this.1 this.2 (by unfold lst; rw [if_pos (by omega)]; exact Int.le_refl _)
/-- an atom: NONE, or an object -/
theorem g_atom {a b : Int} {Q : Int → iST → Prop} {u : iST} (h : RI u) (a0 : 0 ≤ a) (ab : a ≤ b) (b1 : b ≤ 3000) (hn : u.1 8 < 451000) (h6 : u.1 6 < 40000) (h11 : u.1 11 < 21000) (hnone : Q (-1) u) (hq : ∀ k v, RI v → Fx fR u v → Ext u v → Szs u v → Phi v ≤ Phi u + 1 → v.1 32 = u.1 32 → v.1 6 ≤ u.1 6 + 1 → v.1 11 ≤ u.1 11 + 1 → v.1 23 = u.1 23 → v.1 14 = u.1 14 → 0 ≤ k → k < v.1 8 → Psi v = Psi u → wA v k = 1 → Q k v) : w_atom a b Q u := by
  have htx := h.2.2.2.2.2.2.2.2
  unfold w_atom w_atom_5
  refine lf4 (B := fun R x1 x2 x3 x4 u => w_atom_5b R Q x1 x2 x3 x4 u) (fun x1 x2 x3 x4 v => v = u ∧ x1 = a ∧ x2 = b ∧ a ≤ x4 ∧ x4 ≤ b ∧ (x3 ≠ 0 → ∀ i, a ≤ i → i < x4 → 48 ≤ u.2.1 13 i ∧ u.2.1 13 i ≤ 57)) (fun _ _ _ x4 _ => (b - x4).toNat) ?_ ⟨rfl, rfl, rfl, Int.le_refl _, ab, fun _ i i0 i1 => by omega⟩
  intro x1 x2 x3 x4 v hI R ih
  obtain ⟨rfl, rfl, rfl, q1, q2, q3⟩ := hI
  unfold w_atom_5b
  refine br_i (fun hc => br_i (fun hd => ?_) (fun hd => ?_)) (fun hc => br_i (fun hd => ?_) (fun hd => ?_))
  · refine ov_i (by omega) (by omega) (br_i (fun he => sw_i ?_) (fun _ => hnone))
    unfold w_atom_135
    refine lf2 (B := fun R x2 x4 u => w_atom_135b R Q x2 x4 u) (fun y2 y4 w => y2 = x2 ∧ x1 ≤ y4 ∧ y4 ≤ x2 ∧ (∀ k, k ≠ 18 → w.1 k = v.1 k) ∧ 0 ≤ w.1 18 ∧ w.1 18 ≤ y4 - x1 ∧ (∀ g, g ≠ 17 → w.2.1 g = v.2.1 g) ∧ w.2.2 = v.2.2) (fun _ y4 _ => (x2 - y4).toNat) ?_ ⟨rfl, Int.le_refl _, by omega, fun k hk => if_neg hk, Int.le_refl _, by show (0 : Int) ≤ x1 - x1; omega, fun _ _ => rfl, rfl⟩
    intro y2 y4 w hI R2 ih2
    obtain ⟨rfl, p1, p2, p3, p4, p5, p6, p7⟩ := hI
    unfold w_atom_135b
    have e8 := p3 8 (by decide)
    have hTw : TI w := by
      have hT := h.1
      unfold TI NodeOk HeadOk KindOk slotv at hT ⊢
      rw [p3 8 (by decide), p3 6 (by decide), p3 11 (by decide), p6 0 (by decide), p6 1 (by decide), p6 2 (by decide), p6 4 (by decide), p6 7 (by decide), p6 9 (by decide), p6 10 (by decide), p7]
      exact hT
    refine br_i (fun hc2 => ?_) (fun hc2 => ?_)
    · refine g_symbol hTw (by omega) (by rw [p3 11 (by decide)]; omega) p4 (by omega) fun k z hg k0 k1 ksy => ?_
      obtain ⟨g1, g2, g3, g4, g5, g6, g7⟩ := hg
      have ew : ∀ k, 12 ≤ k → k ≠ 17 → k ≠ 18 → z.1 k = v.1 k ∧ z.2.1 k = v.2.1 k := fun k hk h17 h18 => by
        have := g4 k (show fT k = false by simp [fT]; omega)
        exact ⟨this.1.trans (p3 k h18), this.2.trans (p6 k h17)⟩
      have s8 : v.1 8 ≤ z.1 8 := by rw [← e8]; exact g2.1.1
      have hEz : Ext v z := by
        obtain ⟨⟨c1, c2, c3⟩, c4, c5, c6, c7⟩ := g2
        rw [p3 8 (by decide), p3 6 (by decide), p3 11 (by decide)] at *
        rw [p6 0 (by decide), p6 1 (by decide), p6 4 (by decide)] at c4
        rw [p6 10 (by decide)] at c6
        rw [p6 9 (by decide)] at c7
        rw [p7] at c5
        exact ⟨⟨c1, c2, c3⟩, c4, c5, c6, c7⟩
      refine hq k z (RI_grow h g1 s8 ew) ?_ hEz ?_ ?_ (ew 32 (by decide) (by decide) (by decide)).1 (by rw [g6, p3 6 (by decide)]; omega) (by rw [← p3 11 (by decide)]; exact g7) (ew 23 (by decide) (by decide) (by decide)).1 (ew 14 (by decide) (by decide) (by decide)).1 k0 k1 (Psi_grow h g1 hEz ew) (wA_atom k0 (by omega))
      · intro j hj
        have hj2 : ¬ (j ≤ 11) ∧ j ≠ 17 ∧ j ≠ 18 := by simp [fR] at hj; omega
        exact ew j (by omega) hj2.2.1 hj2.2.2
      · have c := g3
        unfold Szs at c ⊢
        rw [p3 8 (by decide), p6 3 (by decide)] at c
        exact c
      · show z.1 8 + z.1 32 + 3 * z.1 30 ≤ v.1 8 + v.1 32 + 3 * v.1 30 + 1
        rw [(ew 32 (by decide) (by decide) (by decide)).1, (ew 30 (by decide) (by decide) (by decide)).1]
        omega
    · refine bd_i (by omega) (by omega) (rd_i fun _ => ?_)
      unfold w_spell
      refine br_i (fun hz => ?_) (fun hz => ?_)
      · refine rd_i fun _ => bd_i p4 (by omega) (sw_i (rd_i fun _ => ov_i (show -2147483648 ≤ w.1 18 + 1 by omega) (show w.1 18 + 1 < 2147483648 by omega) (sw_i (ov_i (by omega) (by omega) ?_))))
        refine ih2 _ _ _ ⟨rfl, by omega, by omega, fun k hk => (if_neg hk).trans (p3 k hk), show 0 ≤ w.1 18 + 1 by omega, show w.1 18 + 1 ≤ y4 + 1 - x1 by omega, fun g hg => (if_neg hg).trans (p6 g hg), p7⟩ (by omega)
      · exact ov_i (by omega) (by omega) (ih2 _ _ _ ⟨rfl, by omega, by omega, p3, p4, by omega, p6, p7⟩ (by omega))
  · unfold w_atom_50
    have hdig := q3 hd
    refine lf3 (B := fun R x2 x4 x6 u => w_atom_50b R Q x2 x4 x6 u) (fun y2 y4 y6 w => w = v ∧ y2 = x2 ∧ 0 ≤ y4 ∧ y4 ≤ 4611686018427387903 ∧ x1 ≤ y6 ∧ y6 ≤ x2) (fun _ _ y6 _ => (x2 - y6).toNat) ?_ ⟨rfl, rfl, by omega, by omega, Int.le_refl _, by omega⟩
    intro y2 y4 y6 w hI R2 ih2
    obtain ⟨rfl, rfl, p1, p2, p3, p4⟩ := hI
    unfold w_atom_50b
    refine br_i (fun hc2 => ?_) (fun hc2 => ?_)
    · refine g_natural h.1 (by omega) h6 p1 p2 fun k z hg k0 k1 kn _ => ?_
      have ew := fT_12 hg.2.2.2.1
      refine hq k z (RI_grow h hg.1 hg.2.1.1.1 ew) (fT_R hg.2.2.2.1) hg.2.1 hg.2.2.1 ?_ (ew 32 (by decide) (by decide) (by decide)).1 hg.2.2.2.2.2.1 (by rw [hg.2.2.2.2.2.2]; omega) (ew 23 (by decide) (by decide) (by decide)).1 (ew 14 (by decide) (by decide) (by decide)).1 k0 k1 (Psi_grow h hg.1 hg.2.1 ew) (wA_atom k0 (by omega))
      show z.1 8 + z.1 32 + 3 * z.1 30 ≤ w.1 8 + w.1 32 + 3 * w.1 30 + 1
      rw [(ew 32 (by decide) (by decide) (by decide)).1, (ew 30 (by decide) (by decide) (by decide)).1]
      have := hg.2.2.2.2.1
      omega
    · have hdd := hdig y6 p3 (by omega)
      have ed : Int.tdiv (4611686018427387903 - (w.2.1 13 y6 - 48)) 10 = (4611686018427387903 - (w.2.1 13 y6 - 48)) / 10 := Int.tdiv_eq_ediv_of_nonneg (by omega)
      refine bd_i (by omega) (by omega) (rd_i fun _ => ov_i (by omega) (by omega) (ol_i (by omega) (by omega) ⟨by decide, br_i (fun he => ?_) (fun _ => hnone)⟩))
      rw [ed] at he
      refine ol_i (by omega) (by omega) (bd_i (by omega) (by omega) (rd_i fun _ => ol_i (by omega) (by omega) (ol_i (by omega) (by omega) (ov_i (by omega) (by omega) ?_))))
      exact ih2 _ _ _ _ ⟨rfl, rfl, by omega, by omega, by omega, by omega⟩ (by omega)
  · exact ov_i (by omega) (by omega) (ih _ _ _ _ _ ⟨rfl, rfl, rfl, by omega, by omega, fun z => absurd rfl z⟩ (by omega))
  · refine bd_i (by omega) (by omega) (rd_i fun _ => s_isDigit fun r hr hd2 => br_i (fun he => ?_) (fun he => ?_))
    · exact ov_i (by omega) (by omega) (ih _ _ _ _ _ ⟨rfl, rfl, rfl, by omega, by omega, fun z => absurd rfl z⟩ (by omega))
    · refine ov_i (by omega) (by omega) (ih _ _ _ _ _ ⟨rfl, rfl, rfl, by omega, by omega, fun _ i i0 i1 => ?_⟩ (by omega))
      by_cases e : i = x4
      · subst e; exact hd2 he
      · exact q3 hd i i0 (by omega)
