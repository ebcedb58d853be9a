/-! readWord, reads -/
theorem sumI_r {u : iST} (h : RI u) : ∀ (n : Nat), (n : Int) ≤ u.1 32 → 0 ≤ sumI u n
  | 0, _ => Int.le_refl _
  | n + 1, hn => by
    have h1 := sumI_r h n (by omega)
    have h2 := h.2.2.2.2.1 n (by omega) (by omega)
    have h3 := (w_pos h.1 h2.1 h2.2).1
    show 0 ≤ sumI u n + wA u (u.2.1 31 (n : Int))
    omega
theorem sumO_r {u : iST} (h : RI u) : ∀ (n : Nat), (n : Int) ≤ u.1 30 → 0 ≤ sumO u n
  | 0, _ => Int.le_refl _
  | n + 1, hn => by
    have h1 := sumO_r h n (by omega)
    have h2 := lst_r h (i := n) (by omega) (by omega)
    show 0 ≤ sumO u n + 1 + lst u (n : Int)
    omega
theorem Psi_wh {u : iST} (h : RI u) : wh u ≤ Psi u := by
  have h1 := sumI_r h (u.1 32).toNat (by have := h.2.2.2.1; omega)
  have h2 := sumO_r h (u.1 30).toNat (by have := h.2.2.1; omega)
  unfold Psi
  omega
theorem Psi_dot {u : iST} (h : RI u) (h0 : 0 < u.1 30) : Psi (iA u 28 (u.1 30 - 1) 1) ≤ Psi u := by
  have hlr := lst_r h (i := u.1 30 - 1) (by omega) (by omega)
  obtain ⟨r1, r2, r3, r4, r5, r6, r7, r8, r9⟩ := h
  generalize hv : iA u 28 (u.1 30 - 1) 1 = v
  have v31 : v.2.1 31 = u.2.1 31 := by rw [← hv]; rfl
  have v28 : ∀ j, v.2.1 28 j = if j = u.1 30 - 1 then 1 else u.2.1 28 j := fun j => by rw [← hv]; rfl
  have v29 : v.2.1 29 = u.2.1 29 := by rw [← hv]; rfl
  have v1 : v.1 = u.1 := by rw [← hv]; rfl
  have hV : TI v := by rw [← hv]; exact r1
  have hE : Ext u v := by rw [← hv]; exact Ext.rf u
  clear hv
  obtain ⟨n, hn⟩ : ∃ n : Nat, u.1 30 = n + 1 := ⟨(u.1 30 - 1).toNat, by omega⟩
  have e1 : sumI v (u.1 32).toNat = sumI u (u.1 32).toNat := sumI_eq r1 hV hE _ (fun j hj => ⟨by rw [v31], r5 j (by omega) (by omega)⟩)
  have e2 : sumO v n = sumO u n := sumO_eq r1 hV hE _ (fun j hj => ⟨by rw [v28, if_neg (by omega)], by rw [v29], (r6 j (by omega) (by omega)).2.2⟩)
  have e3 : wh v = wh u := by
    unfold wh
    rw [v1]
    split
    · next z => rw [(w_ext r1 hV hE (r8 z).1 (r8 z).2).1]
    · rfl
  have z28 : v.2.1 28 (n : Int) = 1 := by rw [v28, if_pos (by omega)]
  have e4 : lst v (n : Int) = 0 := by
    unfold lst
    rw [z28]
    exact if_neg (by decide)
  have e6 : sumO u (u.1 30).toNat = sumO u n + 1 + lst u (n : Int) := by rw [show (u.1 30).toNat = n + 1 from by omega]; rfl
  have e7 : sumO v (u.1 30).toNat = sumO v n + 1 + lst v (n : Int) := by rw [show (u.1 30).toNat = n + 1 from by omega]; rfl
  have ePv : Psi v = sumI v (u.1 32).toNat + sumO v (u.1 30).toNat + wh v := by unfold Psi; rw [v1]
  have ePu : Psi u = sumI u (u.1 32).toNat + sumO u (u.1 30).toNat + wh u := rfl
  rw [show u.1 30 - 1 = (n : Int) from by omega] at hlr
  rw [ePv, e7, e1, e2, e3, e4, ePu, e6]
  omega
theorem g_readWord {k : Int} {Q : iST → Prop} {u : iST} (h : RI u) (hat : u.1 23 < u.1 14) (hn : Phi u < 450000) (h6 : u.1 6 < 40000) (h11 : u.1 11 < 21000) (hi : k ≤ 1000 → u.1 32 < 1000) (hq : ∀ v, RI v → Fx fR u v → Ext u v → Szs u v → Phi v ≤ Phi u + 3 → (k ≤ 1000 → v.1 32 ≤ u.1 32 + 1) → (1000 < k → v.1 32 = u.1 32) → v.1 6 ≤ u.1 6 + 1 → v.1 11 ≤ u.1 11 + 1 → u.1 23 < v.1 23 → v.1 14 = u.1 14 → Psi v ≤ Psi u + 1 → (1000 < k → v.1 24 ≠ 0) → Q v) : w_readWord k Q u := by
  have hr := h
  obtain ⟨r1, r2, r3, r4, r5, r6, r7, r8, r9⟩ := hr
  have h44 := r1.1
  have hphi : Phi u = u.1 8 + u.1 32 + 3 * u.1 30 := rfl
  unfold w_readWord
  have key : ∀ y0, (y0 = 0 ∧ k ≤ 1000 ∨ y0 = 1 ∧ 1000 < k) → w_readWord_27 Q (u.1 23) (u.2.1 13 (u.1 23)) y0 u := by
    intro y0 hy
    unfold w_readWord_27
    refine rd_i fun _ => ov_i (by omega) (by omega) (sw_i ?_)
    generalize hw : iI u 23 (u.1 23 + 1) = w
    have w23 : w.1 23 = u.1 23 + 1 := by rw [← hw]; rfl
    have ws : ∀ k, k ≠ 23 → w.1 k = u.1 k := fun k hk => by rw [← hw]; exact if_neg hk
    have wa : w.2 = u.2 := by rw [← hw]; rfl
    have hF : Fx fR u w := by rw [← hw]; exact Fx_I (k := 23) rfl
    have hE : Ext u w := by rw [← hw]; exact Ext.rf u
    have hZ : Szs u w := by rw [← hw]; exact Szs.rf u
    have hP : Phi w = Phi u := by rw [← hw]; rfl
    have w14 := ws 14 (by decide)
    have w32 := ws 32 (by decide)
    have w30 := ws 30 (by decide)
    have w6 := ws 6 (by decide)
    have w11 := ws 11 (by decide)
    have w8 := ws 8 (by decide)
    have hw2 : RI w := by
      have : RI (iI u 23 (u.1 23 + 1)) := ⟨r1, ⟨show 0 ≤ u.1 23 + 1 by omega, show u.1 23 + 1 ≤ u.1 14 by omega, r2.2.2⟩, r3, r4, r5, r6, r7, r8, r9⟩
      rw [← hw]; exact this
    have hPs : Psi w = Psi u := Psi_same h hw2.1 hE (by rw [wa]) (by rw [wa]) (by rw [wa]) w32 w30 (ws 33 (by decide)) (ws 34 (by decide))
    clear hw
    have fin : ∀ v, RI v → Fx fR w v → Ext w v → Szs w v → Phi v ≤ Phi w + 3 → (k ≤ 1000 → v.1 32 ≤ w.1 32 + 1) → (1000 < k → v.1 32 = w.1 32) → v.1 6 ≤ w.1 6 + 1 → v.1 11 ≤ w.1 11 + 1 → w.1 23 ≤ v.1 23 → v.1 14 = w.1 14 → Psi v ≤ Psi w + 1 → (1000 < k → v.1 24 ≠ 0) → Q v := fun v a1 a2 a3 a4 a5 a6 a7 a8 a9 a10 a11 a12 a13 => hq v a1 (hF.tr a2) (hE.tr a3) (hZ.tr a4 (by omega) hE.1.1 a3.1.1) (by omega) (fun z => by have := a6 z; omega) (fun z => by have := a7 z; omega) (by omega) (by omega) (by omega) (by omega) (by omega) a13
    have kbad : ∀ a b, a ≠ 0 → w_bad a b Q w := fun a b ha => g_bad hw2 (fun v a1 a2 a3 a4 a5 a6 a7 a8 a9 a10 a11 a12 => fin v a1 a2 a3 a4 (by omega) (fun _ => by omega) (fun _ => by omega) (by omega) (by omega) (by omega) a10 (by omega) (fun _ => a12)) ha
    have k51 : w_readWord_51 Q (u.1 23) (u.2.1 13 (u.1 23)) y0 w := by
      unfold w_readWord_51
      refine s_mayBegin hw2 fun r _ => br_i (fun _ => rd_i fun _ => br_i (fun h40 => br_i (fun hz => ?_) (fun _ => kbad _ _ (by decide))) (fun _ => kbad _ _ (by decide))) (fun _ => kbad _ _ (by decide))
      have kb : ∀ z, w_readWord_111 Q z w := fun z => by
        unfold w_readWord_111
        exact g_begin hw2 (by omega) fun v a1 a2 a3 a4 a5 a6 a7 a8 a9 a10 a11 => fin v a1 a2 a3 a4 (by omega) (fun _ => by omega) (fun _ => by omega) (by omega) (by omega) (by omega) a10 (by omega) (fun z => by omega)
      exact br_i (fun _ => kb _) (fun _ => kb _)
    refine br_i (fun _ => k51) fun _ => br_i (fun _ => br_i (fun _ => br_i (fun _ => ?_) (fun _ => ?_)) (fun _ => ?_)) (fun _ => k51)
    · refine s_isAtom fun r _ => br_i (fun _ => ?_) (fun _ => kbad _ _ (by decide))
      unfold w_readWord_274
      refine lf2 (B := fun R x2 x4 u => w_readWord_274b R Q x2 x4 u) (fun x2 x4 v => x2 = u.1 23 ∧ x4 = y0 ∧ ∃ x, w.1 23 ≤ x ∧ x ≤ w.1 14 ∧ v = iI w 23 x) (fun _ _ v => (v.1 14 - v.1 23).toNat) ?_ ⟨rfl, rfl, w.1 23, Int.le_refl _, by omega, Prod.ext (funext fun j => by show w.1 j = if j = 23 then w.1 23 else w.1 j; split <;> simp_all) rfl⟩
      intro x2 x4 v hI R ih
      obtain ⟨rfl, rfl, x, x0, x1, rfl⟩ := hI
      have hwx : RI (iI w 23 x) := by
        obtain ⟨s1, s2, s3, s4, s5, s6, s7, s8, s9⟩ := hw2
        exact ⟨s1, ⟨show 0 ≤ x by omega, x1, s2.2.2⟩, s3, s4, s5, s6, s7, s8, s9⟩
      have hPx : Psi (iI w 23 x) = Psi w := Psi_same (v := iI w 23 x) hw2 hw2.1 (Ext.rf w) rfl rfl rfl rfl rfl rfl rfl
      have k313 : w_readWord_313 Q (u.1 23) x4 (iI w 23 x) := by
        unfold w_readWord_313
        refine rd_i fun _ => g_atom hwx (by omega) (show u.1 23 ≤ x by omega) (show x ≤ 3000 by omega) (show w.1 8 < 451000 by omega) (show w.1 6 < 40000 by omega) (show w.1 11 < 21000 by omega) ?_ ?_
        · refine br_n (by simp) ?_
          exact g_bad hwx (fun v a1 a2 a3 a4 a5 a6 a7 a8 a9 a10 a11 a12 => fin v a1 ((Fx_I (k := 23) rfl).tr a2) a3 a4 (by have a5 : Phi v = Phi w := a5; omega) (fun _ => by have a6 : v.1 32 = w.1 32 := a6; omega) (fun _ => a6) (by have a7 : v.1 6 = w.1 6 := a7; omega) (by have a8 : v.1 11 = w.1 11 := a8; omega) (by have a9 : v.1 23 = x := a9; omega) a10 (by omega) (fun _ => a12)) (by decide)
        · intro kk z a1 a2 a3 a4 a5 a6 a7 a8 a9 a10 a11 a12 a13 a14
          rw [hPx] at a13
          have a5 : Phi z ≤ Phi w + 1 := a5
          have a6 : z.1 32 = w.1 32 := a6
          have a7 : z.1 6 ≤ w.1 6 + 1 := a7
          have a8 : z.1 11 ≤ w.1 11 + 1 := a8
          have a9 : z.1 23 = x := a9
          have a10 : z.1 14 = w.1 14 := a10
          have b2 : Fx fR w z := (Fx_I (k := 23) rfl).tr a2
          have b3 : Ext w z := a3
          have b4 : Szs w z := a4
          have kb : ∀ a b, a ≠ 0 → w_bad a b Q z := fun a b ha => g_bad a1 (fun v c1 c2 c3 c4 c5 c6 c7 c8 c9 c10 c11 c12 => fin v c1 (b2.tr c2) (b3.tr c3) (b4.tr c4 (by omega) b3.1.1 c3.1.1) (by omega) (fun _ => by omega) (fun _ => by omega) (by omega) (by omega) (by omega) (by omega) (by omega) (fun _ => c12)) ha
          refine br_i (fun _ => s_mayBegin a1 fun r _ => br_i (fun _ => br_i (fun hz => ?_) (fun _ => kb _ _ (by decide))) (fun _ => kb _ _ (by decide))) (fun _ => kb _ _ (by decide))
          have hk : k ≤ 1000 := by omega
          have hi2 := hi hk
          refine g_deliver a1 a11 a12 (by omega) (by omega) fun v c1 c2 c3 c4 c5 c6 c7 c8 c9 c10 c11 => fin v c1 (b2.tr c2) (b3.tr c3) (b4.tr c4 (by omega) b3.1.1 c3.1.1) (by omega) (fun _ => by omega) (fun _ => by omega) (by omega) (by omega) (by omega) (by omega) (by omega) (fun z => by omega)
      unfold w_readWord_274b
      refine rd_i fun _ => rd_i fun _ => br_i (fun _ => k313) fun hc => ?_
      have hc : ¬ w.1 14 ≤ x := hc
      refine rd_i fun _ => bd_i (show 0 ≤ x by omega) (show x < 3000 by omega) (rd_i fun _ => s_isAtom fun r _ => br_i (fun _ => k313) fun _ => rd_i fun _ => ov_i (show -2147483648 ≤ x + 1 by omega) (show x + 1 < 2147483648 by omega) (sw_i ?_))
      refine ih _ _ _ ⟨rfl, rfl, x + 1, by omega, by omega, ?_⟩ (show (w.1 14 - (x + 1)).toNat < (w.1 14 - x).toNat by omega)
      refine Prod.ext (funext fun j => ?_) rfl
      show (if j = 23 then x + 1 else if j = 23 then x else w.1 j) = if j = 23 then x + 1 else w.1 j
      split <;> rfl
    · have k220 : w_readWord_220 Q (u.1 23) w := by
        unfold w_readWord_220; exact kbad _ _ (by decide)
      refine s_isInList hw2 fun r _ hrr => br_i (fun _ => k220) fun hz => ?_
      have := hrr hz
      have hs2 := hw2.2.2.1
      refine rd_i fun _ => ov_i (by omega) (by omega) (bd_i (by omega) (by omega) (rd_i fun _ => br_i (fun _ => k220) fun hst => rd_i fun _ => rd_i fun _ => ov_i (by omega) (by omega) (bd_i (by omega) (by omega) (rd_i fun _ => br_i (fun _ => br_i (fun _ => ?_) (fun _ => kbad _ _ (by decide))) (fun _ => k220)))))
      refine rd_i fun _ => ov_i (by omega) (by omega) (bd_i (by omega) (by omega) (sw_i ?_))
      have hdot := Psi_dot hw2 (by omega)
      obtain ⟨s1, s2, s3, s4, s5, s6, s7, s8, s9⟩ := hw2
      refine fin _ ⟨s1, s2, s3, s4, s5, fun i i0 i1 => ?_, s7, s8, s9⟩ (Fx_A (k := 28) rfl) (Ext.rf w) (Szs.rf w) (show Phi w ≤ Phi w + 3 by omega) (fun _ => show w.1 32 ≤ w.1 32 + 1 by omega) (fun _ => rfl) (show w.1 6 ≤ w.1 6 + 1 by omega) (show w.1 11 ≤ w.1 11 + 1 by omega) (Int.le_refl _) rfl (by omega) (fun z => by omega)
      obtain ⟨q1, q2, q3⟩ := s6 i i0 i1
      refine ⟨q1, q2, ?_⟩
      show (if i = w.1 30 - 1 then 1 else w.2.1 28 i) = 2 → _
      split
      · intro z; omega
      · exact q3
    · have k145 : w_readWord_145 Q (u.1 23) w := by
        unfold w_readWord_145; exact kbad _ _ (by decide)
      refine s_isInList hw2 fun r _ hrr => br_i (fun _ => k145) fun hz => ?_
      have := hrr hz
      have hs2 := hw2.2.2.1
      refine rd_i fun _ => ov_i (by omega) (by omega) (bd_i (by omega) (by omega) (rd_i fun _ => br_i (fun hst => br_i (fun hy0 => ?_) (fun _ => kbad _ _ (by decide))) (fun _ => k145)))
      have hi2 := hi (by omega)
      exact g_close hw2 (by omega) (by omega) (fun v a1 a2 a3 a4 a5 a6 a7 a8 a9 a10 a11 => fin v a1 a2 a3 a4 (by omega) (fun _ => a6) (fun _ => by omega) (by omega) (by omega) (by omega) a10 a11 (fun z => by omega)) (by omega)
  refine rd_i fun _ => rd_i fun _ => bd_i (by omega) (by omega) (rd_i fun _ => br_i (fun hk => key 0 (Or.inl ⟨rfl, hk⟩)) (fun hk => key 1 (Or.inr ⟨rfl, by omega⟩)))
/-- a text is read: it has become empty; at most three objects, one natural, one symbol for each of its characters -/
theorem g_reads {Q : Int → iST → Prop} {u : iST} (hT : TI u) (ht0 : 0 ≤ u.1 14) (ht1 : u.1 14 ≤ 3000) (htx : ∀ i, 0 ≤ u.2.1 13 i ∧ u.2.1 13 i ≤ 255) (h8 : u.1 8 + 3 * u.1 14 < 440000) (h6 : u.1 6 + u.1 14 < 40000) (h11 : u.1 11 + u.1 14 < 21000)
    (hq : ∀ r v, bz r → TI v → Fx (fun k => fR k || decide (k = 14)) u v → Ext u v → Szs u v → v.1 8 ≤ u.1 8 + 3 * u.1 14 → v.1 6 ≤ u.1 6 + u.1 14 → v.1 11 ≤ u.1 11 + u.1 14 → v.1 14 = 0 → (r ≠ 0 → 0 ≤ v.1 33 ∧ v.1 33 < v.1 8 ∧ wA v (v.1 33) ≤ 1000 ∧ wA v (v.1 33) ≤ u.1 14) → Q r v) : w_reads Q u := by
  unfold w_reads
  have h44 := hT.1
  refine sw_i (sw_i (sw_i (zt_0 (sw_i (sw_i (sw_i ?_))))))
  generalize hw : iI (iI (iI (iI (iI (iI u 23 0) 30 0) 32 0) 34 0) 24 0) 25 (-1) = w
  have wa : w.2 = u.2 := by rw [← hw]; rfl
  have hF : Fx fR u w := by rw [← hw]; exact (((((Fx_I (k := 23) rfl).tr (Fx_I (k := 30) rfl)).tr (Fx_I (k := 32) rfl)).tr (Fx_I (k := 34) rfl)).tr (Fx_I (k := 24) rfl)).tr (Fx_I (k := 25) rfl)
  have hE : Ext u w := by rw [← hw]; exact Ext.rf u
  have hZ : Szs u w := by rw [← hw]; exact Szs.rf u
  have w8 : w.1 8 = u.1 8 := by rw [← hw]; rfl
  have w6 : w.1 6 = u.1 6 := by rw [← hw]; rfl
  have w11 : w.1 11 = u.1 11 := by rw [← hw]; rfl
  have w14 : w.1 14 = u.1 14 := by rw [← hw]; rfl
  have w23 : w.1 23 = 0 := by rw [← hw]; rfl
  have w32 : w.1 32 = 0 := by rw [← hw]; rfl
  have w30 : w.1 30 = 0 := by rw [← hw]; rfl
  have hR : RI w := by
    have : RI (iI (iI (iI (iI (iI (iI u 23 0) 30 0) 32 0) 34 0) 24 0) 25 (-1)) := ⟨hT, ⟨Int.le_refl _, ht0, ht1⟩, ⟨Int.le_refl _, show (0 : Int) ≤ 40 by decide⟩, ⟨Int.le_refl _, show (0 : Int) ≤ 1000 by decide⟩, fun j j0 j1 => by have j1 : j < 0 := j1; omega, fun i i0 i1 => by have i1 : i < 0 := i1; omega, fun i j i0 ij j1 => by have j1 : j < 0 := j1; omega, fun z => absurd rfl z, htx⟩
    rw [← hw]; exact this
  have w34 : w.1 34 = 0 := by rw [← hw]; rfl
  have hPsw : Psi w ≤ 0 := by
    unfold Psi wh
    rw [w32, w30, w34]
    exact Int.le_refl _
  clear hw
  have loop : ∀ v : iST, RI v → Fx fR w v → Ext w v → Szs w v → Phi v = Phi w → v.1 32 = 0 → v.1 6 = w.1 6 → v.1 11 = w.1 11 → v.1 14 = w.1 14 → Psi v ≤ 0 → w_reads_36 Q 0 v := by
    intro v p1 p2 p3 p4 p5 p6 p7 p8 p9 p10
    unfold w_reads_36
    refine lf1 (B := fun R x1 u => w_reads_36b R Q x1 u) (fun x1 z => 0 ≤ x1 ∧ x1 ≤ z.1 23 ∧ RI z ∧ Fx fR u z ∧ Ext u z ∧ Szs u z ∧ Phi z ≤ Phi w + 3 * x1 ∧ (z.1 32 ≤ x1) ∧ z.1 6 ≤ u.1 6 + x1 ∧ z.1 11 ≤ u.1 11 + x1 ∧ z.1 14 = u.1 14 ∧ Psi z ≤ x1 ∧ (1000 < x1 → z.1 24 ≠ 0)) (fun _ z => (z.1 14 - z.1 23).toNat) ?_ ⟨Int.le_refl _, p1.2.1.1, p1, hF.tr p2, hE.tr p3, hZ.tr p4 (by omega) hE.1.1 p3.1.1, by omega, by omega, by omega, by omega, by omega, p10, fun z => by omega⟩
    intro x1 z hI R ih
    obtain ⟨q0, q1, q2, q3, q4, q5, q6, q7, q8, q9, q10, q11, q12⟩ := hI
    have hz := q2
    obtain ⟨s1, s2, s3, s4, s5, s6, s7, s8, s9⟩ := hz
    have hpw : Phi w = u.1 8 := by show w.1 8 + w.1 32 + 3 * w.1 30 = _; omega
    have hpz : Phi z = z.1 8 + z.1 32 + 3 * z.1 30 := rfl
    have k92 : ∀ y : iST, TI y → Fx fR u y → Ext u y → Szs u y → y.1 8 ≤ u.1 8 + 3 * u.1 14 → y.1 6 ≤ u.1 6 + u.1 14 → y.1 11 ≤ u.1 11 + u.1 14 → (y.1 24 = 0 → 0 ≤ y.1 33 ∧ y.1 33 < y.1 8 ∧ wA y (y.1 33) ≤ 1000 ∧ wA y (y.1 33) ≤ u.1 14) → w_reads_92 Q y := by
      intro y y1 y2 y3 y4 y5 y6 y7 y8
      have yF : Fx (fun k => fR k || decide (k = 14)) u (iI y 14 0) := (y2.mono (fun k hk => by simp at hk; exact hk.1)).tr (Fx_I (k := 14) rfl)
      unfold w_reads_92
      refine sw_i (rd_i fun _ => br_i (fun _ => zt_0 ?_) (fun hz => zt_1 ?_))
      · exact hq 0 _ (Or.inl rfl) y1 yF y3 y4 y5 y6 y7 rfl (fun q => absurd rfl q)
      · have hz : ¬ y.1 24 ≠ 0 := hz
        obtain ⟨c1, c2, c3, c4⟩ := y8 (by omega)
        have eW : wA (iI y 14 0) (y.1 33) = wA y (y.1 33) := (w_ext (u := y) (v := iI y 14 0) y1 y1 (Ext.rf y) c1 c2).1
        exact hq 1 _ (Or.inr rfl) y1 yF y3 y4 y5 y6 y7 rfl (fun _ => ⟨c1, c2, show wA (iI y 14 0) (y.1 33) ≤ 1000 by omega, show wA (iI y 14 0) (y.1 33) ≤ u.1 14 by omega⟩)
    have k69 : w_reads_69 Q z := by
      unfold w_reads_69
      refine rd_i fun _ => br_i (fun hz => ?_) (fun hz => rz_i fun _ => br_i (fun hdn => ?_) (fun hdn => rd_i fun _ => ?_))
      · exact k92 z s1 q3 q4 q5 (by omega) (by omega) (by omega) (fun q => absurd q hz)
      · exact k92 z s1 q3 q4 q5 (by omega) (by omega) (by omega) (fun q => by
          have hw1 := Psi_wh q2
          have e : wh z = wA z (z.1 33) := by unfold wh; rw [if_pos hdn]
          have hx : ¬ 1000 < x1 := fun y => q12 y q
          have h2 := s8 hdn
          have h3 := s2
          exact ⟨h2.1, h2.2, by omega, by omega⟩)
      · refine s_bad (fun q => absurd q (by omega)) ?_
        refine k92 _ s1 (q3.tr ((Fx_I (k := 24) rfl).tr (Fx_I (k := 25) rfl))) q4 q5 (show z.1 8 ≤ _ by omega) (show z.1 6 ≤ _ by omega) (show z.1 11 ≤ _ by omega) (fun q => ?_)
        have q : (3 : Int) = 0 := q
        omega
    unfold w_reads_36b
    refine rd_i fun _ => br_i (fun _ => k69) fun _ => rd_i fun _ => rd_i fun _ => br_i (fun _ => k69) fun hlt => ov_i (by omega) (by omega) ?_
    refine g_readWord q2 (by omega) (by omega) (by omega) (by omega) (fun hk => by omega) fun y a1 a2 a3 a4 a5 a6 a7 a8 a9 a10 a11 a12 a13 => ?_
    have b := a1.2.1
    refine s_skip b.1 b.2.1 b.2.2 (fun x x0 x9 => ?_) ?_
    · have hRy := a1
      obtain ⟨t1, t2, t3, t4, t5, t6, t7, t8, t9⟩ := a1
      refine ih _ _ ⟨by omega, show _ ≤ x by omega, ⟨t1, ⟨show 0 ≤ x by omega, x9, t2.2.2⟩, t3, t4, t5, t6, t7, t8, t9⟩, (q3.tr a2).tr (Fx_I (k := 23) rfl), q4.tr a3, q5.tr a4 (by omega) q4.1.1 a3.1.1, show Phi y ≤ _ by omega, ?_, show y.1 6 ≤ _ by omega, show y.1 11 ≤ _ by omega, show y.1 14 = _ by omega, ?_, a13⟩ (show (y.1 14 - x).toNat < _ by omega)
      · show y.1 32 ≤ _
        rcases Int.lt_or_le 1000 (x1 + 1) with hk | hk
        · have := a7 hk; omega
        · have := a6 hk; omega
      · have e : Psi (iI y 23 x) = Psi y := Psi_same (v := iI y 23 x) hRy hRy.1 (Ext.rf y) rfl rfl rfl rfl rfl rfl rfl
        rw [e]
        omega
    · refine ih _ _ ⟨by omega, by omega, a1, q3.tr a2, q4.tr a3, q5.tr a4 (by omega) q4.1.1 a3.1.1, by omega, ?_, by omega, by omega, by omega, by omega, a13⟩ (by omega)
      rcases Int.lt_or_le 1000 (x1 + 1) with hk | hk
      · have := a7 hk; omega
      · have := a6 hk; omega
  refine s_skip (by omega) (by omega) (by omega) (fun x x0 x1 => ?_) (loop w hR (Fx.rf _ _) (Ext.rf _) (Szs.rf _) rfl w32 rfl rfl rfl hPsw)
  have ePs : Psi (iI w 23 x) = Psi w := Psi_same (v := iI w 23 x) hR hR.1 (Ext.rf w) rfl rfl rfl rfl rfl rfl rfl
  obtain ⟨t1, t2, t3, t4, t5, t6, t7, t8, t9⟩ := hR
  exact loop _ ⟨t1, ⟨show 0 ≤ x by omega, x1, t2.2.2⟩, t3, t4, t5, t6, t7, t8, t9⟩ (Fx_I (k := 23) rfl) (Ext.rf w) (Szs.rf w) rfl w32 rfl rfl rfl (by rw [ePs]; exact hPsw)
