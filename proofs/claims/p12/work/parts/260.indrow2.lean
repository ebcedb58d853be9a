theorem fY_Z2 : ∀ k, fZ2 k = false → fY k = false := fun k hk => by simp [fZ2] at hk; simp [fY]; omega
theorem g_inductionRow {u : iST} {d l p fo b E : Int} {N : Nat} {Q : iST → Prop} (hL : Ly u u 0 0) (hd : DR u) (h122 : u.1 122 ≤ 600) (hN : DNi b u E) (d0 : 0 ≤ d) (d1 : d < u.1 35) (h37 : u.2.1 37 d = N) (hl : IsL u l N) (hv : ∀ i, i < N → u.2.1 0 (el u l i) = -2) (hp : PathsOk u (u.2.1 36 d) N) (p0 : 0 ≤ p) (p1 : p < u.1 126) (hfo : TJ u fo) (h8 : u.1 8 + 67000 ≤ 452000) (hq : ∀ w, IR u b E w 66879 (39 + 239 * sz u (u.2.1 123 p)) 160 → ExtT u w → Q w) : w_inductionRow d l p fo Q u := by
  have hW := hL.1
  have hT := hW.1.1
  have hm := hT.2.1
  have hD := hW.1.2.1
  have d40 : d < 40 := by have := hD.2.1; omega
  have hdd := hD.2.2.1 d d0 d1
  have hN6 : N ≤ 6 := by omega
  have p40 := hp.2.1
  have hpp := hp.2.2 p p0 p1
  have hr39 := hpp.2.2.1
  have hend := hpp.1
  have esz := hend.1.1.szr hT
  have es120 := hend.1.2
  have lr := hl.r (by have := hT.1; omega)
  -- what holds of a later state
  have later : ∀ {a : iST} {c e k : Int}, IR u b E a c e k → TI a ∧ ExtT u a ∧ a.1 8 ≤ u.1 8 + c ∧ GI a ∧ a.2.1 37 d = N ∧ IsL a l N ∧ (∀ i, i < N → a.2.1 0 (el a l i) = -2) ∧ a.2.1 36 = u.2.1 36 ∧ TJ a fo ∧ a.1 35 = u.1 35 := by
    intro a c e k h
    have aE := h.1.2.1.2.1
    have aF := h.1.2.1.2.2.1
    have h60 := h.2.2.2.2.2.2.2.2.1
    refine ⟨h.1.1.1.1, aE, by have := h.1.2.1.2.2.2.2.2.2.2.1; omega, h.1.1.1, by rw [fx_a aF 37 rfl]; exact h37, hl.ext hT aE.1, fun i hi => ?_, fx_a aF 36 rfl, hfo.ext hT aE, fx_s aF 35 rfl⟩
    rw [el_ext aE.1 hl i hi]
    have r := IsL.elr hT hl i hi
    rw [(aE.1.2.1 _ r.1 r.2).1]
    exact hv i hi
  have k213 : ∀ a, IR u b E a 66879 (39 + 239 * sz u (u.2.1 123 p)) 159 → w_inductionRow_213 Q fo a := by
    intro a ha
    obtain ⟨aT, aE, a8, aG, a37, al, av, a36, af, a35⟩ := later ha
    have h3 := ha.2.2.1
    unfold w_inductionRow_213
    exact g_putIR hT ha (by omega) af.1 (fun _ => af.2) fun y hy hE => hq y (hy.mono (Int.le_refl _) (Int.le_refl _) (by omega)) (aE.tr hT hE)
  unfold w_inductionRow w_inductionRow_3
  refine lf5 (B := fun R x1 x2 x3 x4 x5 u => w_inductionRow_3b R Q x1 x2 x3 x4 x5 u) (fun c1 c2 c3 c4 c5 a => d = c1 ∧ l = c2 ∧ p = c3 ∧ fo = c4 ∧ 0 ≤ c5 ∧ c5 ≤ u.2.1 125 p ∧ IR u b E a (241 * c5) c5 c5) (fun _ _ _ _ c5 _ => (u.2.1 125 p - c5).toNat) ?_ ⟨rfl, rfl, rfl, rfl, Int.le_refl _, hpp.2.1, ⟨hL, hd, by omega, hN.mono (by omega), rfl, rfl, rfl, rfl, rfl, rfl⟩⟩
  intro c1 c2 c3 c4 c5 a hI R ih
  obtain ⟨q1, q2, q3, q4, q5, q6, q7⟩ := hI
  subst q1
  subst q2
  subst q3
  subst q4
  obtain ⟨aT, aE, a8, aG, a37, al, av, a36, af, a35⟩ := later q7
  have a122 := q7.2.2.1
  obtain ⟨a1, a2, a3, a4, e126, e123, e124, e125, e60, e117⟩ := q7
  have q7 : IR u b E a (241 * c5) c5 c5 := ⟨a1, a2, a3, a4, e126, e123, e124, e125, e60, e117⟩
  unfold w_inductionRow_3b
  refine bd_i p0 (by omega) (rd_i fun _ => ?_)
  rw [e125]
  refine br_i (fun hge => bd_i p0 (by omega) (rd_i fun _ => bd_i d0 d40 (rd_i fun _ => ?_))) (fun hlt => ?_)
  · -- the calls
    rw [e123, a36]
    refine g_findOk aT (by omega) (hend.ext hT aE) fun w w1 w2 w3 w4 _ => ?_
    rw [aE.szw hend.1.1] at w3
    obtain ⟨wI, wE⟩ := q7.fz hT (w1.mono fFd_Z2) w2
    unfold w_inductionRow_69
    refine lf4 (B := fun R69 x1 x2 x4 x5 u => w_inductionRow_69b R69 Q x1 x2 x4 x5 u) (fun y1 y2 y4 y5 z => d = y1 ∧ l = y2 ∧ fo = y4 ∧ 0 ≤ y5 ∧ y5 ≤ w.1 131 ∧ IR u b E z (241 * 39 + 479 * y5) (39 + 239 * y5) (39 + y5) ∧ FoundOk z N ∧ z.1 131 = w.1 131) (fun _ _ _ y5 _ => (w.1 131 - y5).toNat) ?_ ⟨rfl, rfl, rfl, Int.le_refl _, w4.1, wI.mono (by omega) (by omega) (by omega), w4, rfl⟩
    intro y1 y2 y4 y5 z hI2 R69 ih2
    obtain ⟨r1, r2, r3, r4, r5, r6, r7, r8⟩ := hI2
    subst r1
    subst r2
    subst r3
    obtain ⟨zT, zE, z8, zG, z37, zl, zv, z36, zf, z35⟩ := later r6
    have z122 := r6.2.2.1
    have done := k213 z (r6.mono (by omega) (by omega) (by omega))
    unfold w_inductionRow_69b
    refine rd_i fun _ => br_i (fun _ => done) fun hlt => rd_i fun _ => br_i (fun _ => done) fun _ => g_takeParameters zT d0 d40 z37 hN6 zl zv fun s s1 s2 s3 => ?_
    obtain ⟨sI, sE⟩ := r6.fz hT (s1.mono fY_Z2) s2
    have sF : FoundOk s N := r7.ext zT sE (fx_s s1 131 rfl) (fx_a s1 130 rfl)
    have s131 : s.1 131 = w.1 131 := by rw [fx_s s1 131 rfl]; exact r8
    obtain ⟨x0, x1, x2, x3, x4, x5, _, _⟩ := sF.2 y5 r4 (by omega)
    have sT := sI.1.1.1.1
    have xall : AllE s (IsT s) (s.2.1 1 (s.2.1 130 y5)) N := AllE_of fun i hi => (x4 i hi).1
    have xlr := x3.r (by have := sT.1; omega)
    unfold w_inductionRow_94
    refine lf5 (B := fun R94 x1 x2 x4 x5 x6 u => w_inductionRow_94b R69 R94 Q x1 x2 x4 x5 x6 u) (fun i1 i2 i4 i5 i6 g => d = i1 ∧ l = i2 ∧ fo = i4 ∧ y5 = i5 ∧ ∃ k : Nat, i6 = k ∧ k ≤ N ∧ IR u b E g (241 * 39 + 479 * y5 + 2 * preS s (s.2.1 1 (s.2.1 130 y5)) k) (39 + 239 * y5 + 2 * preS s (s.2.1 1 (s.2.1 130 y5)) k) (39 + y5) ∧ ExtT s g ∧ g.2.1 130 = s.2.1 130 ∧ g.1 131 = w.1 131 ∧ SubOk g ∧ ∀ i, 0 ≤ i → i < i6 → IsT g (g.2.1 140 i)) (fun _ _ _ _ i6 _ => (N - i6).toNat) ?_ ⟨rfl, rfl, rfl, rfl, 0, rfl, by omega, sI.mono (by show _ ≤ _ + 2 * 0; omega) (by show _ ≤ _ + 2 * 0; omega) (Int.le_refl _), ExtT.rf s, rfl, s131, s3, fun i i0 i1 => by omega⟩
    intro i1 i2 i4 i5 i6 g hI3 R94 ih3
    obtain ⟨t1, t2, t3, t4, k, rfl, t5, t6, t7, t8, t9, t10, t11⟩ := hI3
    subst t1
    subst t2
    subst t3
    subst t4
    obtain ⟨gT, gE, g8, gG, g37, gl, gv, g36, gf, g35⟩ := later t6
    have g122 := t6.2.2.1
    have hpre := preS_le sT xall k t5
    have hpre0 : 0 ≤ preS s (s.2.1 1 (s.2.1 130 y5)) k := by
      have : ∀ m, m ≤ N → 0 ≤ preS s (s.2.1 1 (s.2.1 130 y5)) m := by
        intro m
        induction m with
        | zero => intro _; exact Int.le_refl _
        | succ m ihm =>
          intro hm'
          have h1 := ihm (by omega)
          have h2 := ((x4 m (by omega)).1).szr sT
          show 0 ≤ preS s (s.2.1 1 (s.2.1 130 y5)) m + sz s (el s (s.2.1 1 (s.2.1 130 y5)) m)
          omega
      exact this k t5
    unfold w_inductionRow_94b
    refine bd_i d0 d40 (rd_i fun _ => ?_)
    rw [g37]
    refine br_i (fun hge3 => bd_i d0 d40 (rd_i fun _ => sw_i ?_)) fun hlt3 => bd_i r4 (by omega) (rd_i fun _ => ov_i (by omega) (by omega) ?_)
    · -- the formula anew
      have ek : k = N := by omega
      subst ek
      show w_inductionRow_150 R69 Q d l fo y5 0 (iI g 74 k)
      obtain ⟨jI, jE⟩ := t6.fz hT (Fx_I (k := 74) rfl : Fx fZ2 g (iI g 74 k)) rfl
      have j74 : (iI g 74 k).1 74 = k := rfl
      have j140 : ∀ i, 0 ≤ i → i < (k : Int) → IsT (iI g 74 k) ((iI g 74 k).2.1 140 i) := fun i i0 i1 => (t11 i i0 i1).ext gT jE
      have j130 : (iI g 74 k).2.1 130 = s.2.1 130 := t8
      have j131 : (iI g 74 k).1 131 = w.1 131 := t9
      have jsE : ExtT s (iI g 74 k) := t7.tr sT jE
      generalize iI g 74 k = j at *
      unfold w_inductionRow_150
      refine lf5 (B := fun R150 x1 x2 x4 x5 x6 u => w_inductionRow_150b R69 R150 Q x1 x2 x4 x5 x6 u) (fun i1 i2 i4 i5 i6 m => d = i1 ∧ l = i2 ∧ fo = i4 ∧ y5 = i5 ∧ 0 ≤ i6 ∧ i6 ≤ k ∧ IR u b E m (241 * 39 + 479 * y5 + 2 * preS s (s.2.1 1 (s.2.1 130 y5)) k) (39 + 239 * y5 + 2 * preS s (s.2.1 1 (s.2.1 130 y5)) k) (39 + y5) ∧ ExtT s m ∧ m.2.1 130 = s.2.1 130 ∧ m.1 131 = w.1 131 ∧ m.1 74 = k ∧ (∀ i, 0 ≤ i → i < (k : Int) → IsT m (m.2.1 140 i)) ∧ ∀ i, 0 ≤ i → i < i6 → IsT m (m.2.1 73 i)) (fun _ _ _ _ i6 _ => (k - i6).toNat) ?_ ⟨rfl, rfl, rfl, rfl, Int.le_refl _, by omega, jI, jsE, j130, j131, j74, j140, fun i i0 i1 => by omega⟩
      intro i1 i2 i4 i5 i6 m hI4 R150 ih4
      obtain ⟨n1, n2, n3, n4, n5, n6, n7, n8, n9, n10, n11, n12, n13⟩ := hI4
      subst n1
      subst n2
      subst n3
      subst n4
      obtain ⟨mT, mE, m8, mG, m37, ml, mv, m36, mf, m35⟩ := later n7
      have m122 := n7.2.2.1
      unfold w_inductionRow_150b
      refine rd_i fun _ => ?_
      rw [n11]
      refine br_i (fun hge4 => ?_) fun hlt4 => ?_
      · refine g_putNot mG mf ⟨by omega, by omega, fun i i0 i1 => n13 i i0 (by omega)⟩ n7.2.1 (by omega) (by omega) n7.2.2.2.1 fun w' y' h1 h2 h3 h4 h5 h6 => ov_i (by omega) (by omega) ?_
        obtain ⟨yI, yE⟩ := n7.pn hT h1 h2 h3 h4 h5 h6
        have syE := n8.tr sT yE
        have y130 : y'.2.1 130 = s.2.1 130 := by rw [fx_a h2 130 rfl, fx_a h1.2.2.1 130 rfl]; exact n9
        have y131 : y'.1 131 = w.1 131 := by rw [fx_s h2 131 rfl, fx_s h1.2.2.1 131 rfl]; exact n10
        exact ih2 _ _ _ _ _ ⟨rfl, rfl, rfl, by omega, by omega, yI.mono (by omega) (by omega) (by omega), sF.ext sT syE (by rw [y131, s131]) y130, y131⟩ (by omega)
      · refine s_nth mT lr.1 (by have := mE.1.1.1; omega) n5 (by omega) (bd_i n5 (by omega) (sw_i (bd_i n5 (by omega) (rd_i fun _ => bd_i n5 (by omega) (sw_i (ov_i (by omega) (by omega) ?_))))))
        generalize el m l i6.toNat = xx
        show R150 d l fo y5 (i6 + 1) (iA (iA m 72 i6 xx) 73 i6 (m.2.1 140 i6))
        generalize hy' : iA (iA m 72 i6 xx) 73 i6 (m.2.1 140 i6) = y'
        have yF : Fx fZ2 m y' := by rw [← hy']; exact (Fx_A (k := 72) rfl).tr (Fx_A (k := 73) rfl)
        have yL : y'.2.2 = m.2.2 := by rw [← hy']; rfl
        have y73 : ∀ j, y'.2.1 73 j = if j = i6 then m.2.1 140 i6 else m.2.1 73 j := fun j => by rw [← hy']; rfl
        have yr : ∀ g, g ≠ 72 → g ≠ 73 → y'.2.1 g = m.2.1 g := fun g g1 g2 => by rw [← hy']; exact (iA_other g2).trans (iA_other g1)
        have ys : y'.1 = m.1 := by rw [← hy']; rfl
        clear hy'
        obtain ⟨yI, yE⟩ := n7.fz hT yF yL
        refine ih4 _ _ _ _ _ _ ⟨rfl, rfl, rfl, rfl, by omega, by omega, yI, n8.tr sT yE, by rw [yr 130 (by decide) (by decide)]; exact n9, by rw [ys]; exact n10, by rw [ys]; exact n11, fun i i0 i1 => by rw [yr 140 (by decide) (by decide)]; exact (n12 i i0 i1).ext mT yE, fun i i0 i1 => ?_⟩ (by omega)
        rw [y73]
        split
        · exact (n12 i6 n5 (by omega)).ext mT yE
        · exact (n13 i i0 (by omega)).ext mT yE
    · -- a term of the call
      have hk : k < N := by omega
      rw [t8]
      have g8s := t7.1.1.1
      refine s_term gT x0 (by omega) (by omega) (by omega) ?_
      have exg := t7.1.2.1 _ x0 x1
      have eel : el g (s.2.1 130 y5) ((k : Int) + 1).toNat = el s (s.2.1 1 (s.2.1 130 y5)) k := by
        rw [show ((k : Int) + 1).toNat = k + 1 from by omega, el_succ, exg.2.1]
        exact el_ext t7.1 x3 k hk
      rw [eel]
      have htj := (x4 k hk).ext sT t7
      have hszs := t7.szx (x4 k hk).1
      have hss := (x4 k hk).1.szr sT
      have hpre1 := preS_le sT xall (k + 1) (by omega)
      have epre : preS s (s.2.1 1 (s.2.1 130 y5)) (k + 1) = preS s (s.2.1 1 (s.2.1 130 y5)) k + sz s (el s (s.2.1 1 (s.2.1 130 y5)) k) := rfl
      refine g_inst gG htj.1 htj.2 t10 (by omega) fun t y hy ht _ _ _ => bd_i (by omega) (by omega) (sw_i (ov_i (by omega) (by omega) ?_))
      have yI := t6.gp hT hy
      have yT := hy.1
      obtain ⟨zI, zzE⟩ := yI.fz hT (Fx_A (k := 140) rfl : Fx fZ2 y (iA y 140 k t)) rfl
      have ysub : SubOk y := hy.sub gT t10
      refine ih3 _ _ _ _ _ _ ⟨rfl, rfl, rfl, rfl, k + 1, by omega, by omega, zI.mono (by omega) (by omega) (Int.le_refl _), (t7.tr sT hy.2.1).tr sT zzE, ?_, ?_, ?_, fun i i0 i1 => ?_⟩ (by omega)
      · rw [iA_other (by decide), fx_a hy.2.2.1 130 rfl]; exact t8
      · show y.1 131 = _
        rw [fx_s hy.2.2.1 131 rfl]; exact t9
      · exact ⟨ysub.1, ysub.2.1, fun i i0 i1 => by rw [iA_other (by decide)]; exact (ysub.2.2 i i0 i1).ext yT zzE⟩
      · rw [iA_same]
        split
        · exact ht.ext yT zzE
        · have hi := t11 i i0 (by omega)
          rw [fx_a hy.2.2.1 140 rfl]
          exact (hi.ext gT hy.2.1).ext yT zzE
  · -- a ruler
    refine g_takeParameters aT d0 d40 a37 hN6 al av fun s s1 s2 s3 => ov_i (by omega) (by omega) (ov_i (by omega) (by omega) (bd_i (by omega) (by omega) (rd_i fun _ => ?_)))
    obtain ⟨sI, sE⟩ := q7.fz hT (s1.mono fY_Z2) s2
    obtain ⟨sT, suE, s8, sG, s37, sl, sv, s36, sf, s35⟩ := later sI
    have htj : TJ s (s.2.1 124 (64 * p + c5)) := by
      rw [sI.2.2.2.2.2.2.1]
      exact (hpp.2.2.2.1 c5 q5 (by omega)).ext hT suE
    have s122 := sI.2.2.1
    refine g_putNot sG htj s3 sI.2.1 (by omega) (by omega) sI.2.2.2.1 fun w' y' h1 h2 h3 h4 h5 h6 => ov_i (by omega) (by omega) ?_
    obtain ⟨yI, yE⟩ := sI.pn hT h1 h2 h3 h4 h5 h6
    exact ih _ _ _ _ _ _ ⟨rfl, rfl, rfl, rfl, by omega, by omega, yI.mono (by omega) (by omega) (by omega)⟩ (by omega)
