/-! takeResult, rewritten -/
theorem Wt.n111 {u w : iST} {J k : Nat} {R T x C d e : Int} (hu : TI u) (h : Wt u w J k R T C d e) : Wt u (iI w 111 x) J k R T C d e ∧ ExtT w (iI w 111 x) := by
  obtain ⟨a1, a2, a3, a4, a5, a6, a7, a8⟩ := h
  obtain ⟨b1, b2, b3, b4⟩ := SP.num (v := iI w 111 x) hu a2 a1 rfl (fun g g1 g2 g3 g4 g5 g6 => if_neg g6)
  exact ⟨⟨b2, b1, a3, a4, a5.ext a1 b3 b4 (fun i _ => ⟨fun _ _ _ => rfl, rfl, fun _ _ _ => rfl⟩) (fun _ _ _ => rfl), a6, a7, a8.ext a1.1.1 b3 rfl rfl⟩, b3⟩
theorem g_join {u v : iST} {k n : Nat} {R C a b c : Int} {Q : iST → Prop} (hu : TI u) (hB : Bud u) (h : Wt u v (k + 1) k R R C 10 2) (ha : TJ v a) (hb : TJ v b) (hc : TJ v c) (hn : 5 * (v.1 59 - v.1 60) + 2 * ((k + 1 : Nat) : Int) ≤ n) (hq : ∀ (N : Nat) v, EX u N v → N < n → Q v) : w_join k a b c Q v := by
  have hk := h.2.2.2.1
  have hW := h.1
  have hm := hW.1.1.2.1
  have bud := h.bud hB
  have ra := ha.1.r
  have en : ∀ t, TJ v t → w_end0 t Q v := fun t ht => g_end0 hu h (by decide) (by decide) ht.1 (fun _ => ht.2) hn hq
  have k75 : w_join_75 Q a b c v := by
    unfold w_join_75
    refine g_made3 hW.1 ha.1 hb.1 hc.1 (by omega) fun t z hz => ?_
    exact g_end0 hu (h.sp hu (hz.1.sp hW)) (by omega) (by omega) hz.2.1 hz.2.2.1 (by rw [fx_s hz.1.2.2.1 59 rfl, fx_s hz.1.2.2.1 60 rfl]; exact hn) hq
  have k49 : w_join_49 Q a b c v := by
    unfold w_join_49
    refine br_i (fun _ => k75) fun _ => br_i (fun _ => k75) fun _ => g_made1 hW.1 ha.1 (by decide) (by decide) (by omega) fun t z hz _ => ?_
    exact g_end0 hu (h.sp hu (hz.1.sp hW)) (by omega) (by omega) hz.2.1 hz.2.2.1 (by rw [fx_s hz.1.2.2.1 59 rfl, fx_s hz.1.2.2.1 60 rfl]; exact hn) hq
  have k41 : w_join_41 Q a v := by
    unfold w_join_41
    exact en a ha
  unfold w_join
  exact br_i (fun _ => br_i (fun _ => k49) fun _ => br_i (fun _ => k49) fun _ => bd_i (by omega) (by omega) (rz_i fun _ => br_i (fun _ => k41) fun _ => s_isBoolean ra.1 (by omega) fun r _ => br_i (fun _ => k49) fun _ => k41)) fun _ => en b hb
theorem g_beginStop {u w : iST} {t tr d e : Int} {n : Nat} {Q : iST → Prop} (hu : TI u) (h : SP fJ u w d e) (hW : WI w) (hd : d ≤ 600) (he : e ≤ 16) (h61 : w.1 61 ≠ 0) (hn0 : 0 < n) (hq : ∀ (N : Nat) v, EX u N v → N < n → Q v) : w_beginJob t tr Q w := by
  unfold w_beginJob
  refine zt_0 (sw_i (rd_i fun _ => br_n h61 ?_))
  obtain ⟨b1, b2, _⟩ := SP.num (v := iI w 111 0) hu h hW rfl (fun g g1 g2 g3 g4 g5 g6 => if_neg g6)
  exact hq 0 _ (EX.stop b1 b2 hd he h61) hn0
theorem g_takeResult {u w0 : iST} {k n : Nat} {R C : Int} {Q : iST → Prop} (hu : TI u) (hB : Bud u) (hc0 : 0 ≤ u.1 109) (hc1 : u.1 109 ≤ 130) (h0 : Wt u w0 (k + 1) (k + 1) R R C 10 2) (ht0 : TJ w0 (w0.1 110)) (hn0 : 5 * (w0.1 59 - w0.1 60) + 2 * ((k + 1 : Nat) : Int) ≤ n) (hq : ∀ (N : Nat) v, EX u N v → N < n → Q v) : w_takeResult k Q w0 := by
  unfold w_takeResult
  refine zt_0 (sw_i ?_)
  have hh := h0.n111 (x := 0) hu
  have h := hh.1
  have ht : TJ (iI w0 111 0) ((iI w0 111 0).1 110) := ht0.ext h0.1.1.1 hh.2
  have hn : 5 * ((iI w0 111 0).1 59 - (iI w0 111 0).1 60) + 2 * ((k + 1 : Nat) : Int) ≤ n := hn0
  generalize iI w0 111 0 = w at *
  clear hh h0 ht0 hn0
  have hk := h.2.2.2.1
  have hW := h.1
  have hT := hW.1.1
  have hm := hT.2.1
  have bud := h.bud hB
  have rc := ht.1.r
  have n0 : 0 < n := by have := hW.2.2.2.2.2.2.1; omega
  have h104 : w.1 104 = R := h.2.2.2.2.2.1
  have h109 : w.1 109 = C := h.2.2.2.2.2.2.1
  obtain ⟨R', C', r0, r1, r6, c0, c1, ⟨hx, hJ⟩, fin⟩ := h.back hu hc0
  have same : C = C' → Wt u w (k + 1) k R' R C' 10 2 := fun e => (fin w R (fun _ _ _ _ => rfl) h104 (by omega) (fun _ _ _ => rfl) rfl (fun i _ => RowEq.rf w i) (fun _ _ => rfl)).1
  refine bd_i (by omega) (by omega) (rd_i fun _ => ?_)
  rcases hJ with ⟨a, b, c, d⟩ | ⟨a, b, c, d, e⟩ | ⟨a, b, c, d, e⟩ | ⟨a, b, c⟩ | ⟨a, b, c, ⟨nn, m, d1, d2, d3, d4, d5, d6, d7⟩, p, q⟩ | ⟨a, b, c, d, e, f⟩ | ⟨a, b, ⟨dd, d0, d1, d2, d3⟩, e, f⟩ | ⟨a, b, c⟩
  · -- 1
    refine br_y a ?_
    subst c
    exact g_test hu hB ⟨same d, rfl, hx, ⟨by omega, by omega⟩, hn⟩ b (by omega) ht hq
  · -- 3
    refine br_n (by omega) (br_y a (rd_i fun _ => bd_i (by omega) (by omega) (sw_i (rd_i fun _ => ov_i (show -2147483648 ≤ w.1 109 - 1 by omega) (show w.1 109 - 1 < 2147483648 by omega) (sw_i ?_)))))
    subst d
    rw [show (iA w 96 (k : Int) (w.1 110)).1 109 - 1 = C' from (show w.1 109 - 1 = C' by omega)]
    obtain ⟨f1, f2, f3⟩ := fin (iI (iA w 96 (k : Int) (w.1 110)) 109 C') R (fun g g1 g2 g3 => if_neg g2) h104 rfl (fun g hg _ => iA_other (by omega)) rfl (fun i hi => RowEq.set (by omega) (by decide) (by decide)) (fun j _ => rfl)
    have vg : ∀ g, g ≠ 96 → (iI (iA w 96 (k : Int) (w.1 110)) 109 C').2.1 g = w.2.1 g := fun g hg => iA_other hg
    have v96 : (iI (iA w 96 (k : Int) (w.1 110)) 109 C').2.1 96 k = w.1 110 := iA_same.trans (if_pos rfl)
    have v1 : ∀ g, g ≠ 109 → (iI (iA w 96 (k : Int) (w.1 110)) 109 C').1 g = w.1 g := fun g hg => if_neg hg
    generalize iI (iA w 96 (k : Int) (w.1 110)) 109 C' = v at *
    have vW := f1.1
    have vbud := f1.bud hB
    have v109 : v.1 109 = C' := f1.2.2.2.2.2.2.1
    refine bd_i (by omega) (by omega) (rd_i fun _ => ?_)
    rw [vg 95 (by decide)]
    have hb := b.ext hT f2
    refine g_notOf vW.1 hb.1 (fun _ => hb.2) (by omega) fun t z hg hz hzs _ _ _ => ?_
    have gF := hg.2.2.1
    have zWt := f1.sp hu (hg.sp vW)
    have zW := zWt.1
    have zE := hg.2.1
    have z109 : z.1 109 = C' := by rw [fx_s gF 109 rfl]; exact v109
    have zn : 5 * (z.1 59 - z.1 60) + 2 * ((k + 1 : Nat) : Int) ≤ n := by rw [fx_s gF 59 rfl, fx_s gF 60 rfl, v1 59 (by decide), v1 60 (by decide)]; exact hn
    have zg : ∀ g, 92 ≤ g → g ≤ 101 → z.2.1 g = v.2.1 g := fun g g1 g2 => fx_a gF g (by simp [fB]; omega)
    refine s_push (by omega) (by omega) (bd_i (by omega) (by omega) (sw_i (bd_i (by omega) (by omega) (rd_i fun _ => bd_i (by omega) (by omega) (rz_i fun hbz => ?_)))))
    rw [z109]
    rw [z109] at hbz
    by_cases h61 : z.1 61 = 0
    · have hzt : TJ z t := ⟨hz, hzs h61⟩
      obtain ⟨S, fin2⟩ := Wt.push hu zWt hzt (by omega)
      have pW := S.wi zW
      have S2 := SP.rows (v := iA (iI (iA z 108 C' t) 109 (C' + 1)) 94 (k : Int) 4) pW (Fx_A (k := 94) rfl) rfl
      have fin3 := fin2 (iA (iI (iA z 108 C' t) 109 (C' + 1)) 94 (k : Int) 4) (Fx_A (k := 94) rfl) rfl (fun i hi => RowEq.set (by omega) (by decide) (by decide))
      have q94 : (iA (iI (iA z 108 C' t) 109 (C' + 1)) 94 (k : Int) 4).2.1 94 k = 4 := by rw [iA_same, if_pos rfl]
      have qg : ∀ g, g ≠ 94 → g ≠ 108 → (iA (iI (iA z 108 C' t) 109 (C' + 1)) 94 (k : Int) 4).2.1 g = z.2.1 g := fun g g1 g2 => (iA_other g1).trans (iA_other g2)
      have q1 : ∀ g, g ≠ 109 → (iA (iI (iA z 108 C' t) 109 (C' + 1)) 94 (k : Int) 4).1 g = z.1 g := fun g hg => if_neg hg
      have qE := S.2.1.tr zW.1.1 S2.2.1
      generalize iA (iI (iA z 108 C' t) 109 (C' + 1)) 94 (k : Int) 4 = y at *
      have allE : ExtT w y := (f2.tr hT zE).tr hT qE
      have y92 : y.2.1 92 k = w.2.1 92 k := by rw [qg 92 (by decide) (by decide), zg 92 (by decide) (by decide), vg 92 (by decide)]
      have y95 : y.2.1 95 k = w.2.1 95 k := by rw [qg 95 (by decide) (by decide), zg 95 (by decide) (by decide), vg 95 (by decide)]
      have y96 : y.2.1 96 k = w.1 110 := by rw [qg 96 (by decide) (by decide), zg 96 (by decide) (by decide), v96]
      have y97 : y.2.1 97 k = w.2.1 97 k := by rw [qg 97 (by decide) (by decide), zg 97 (by decide) (by decide), vg 97 (by decide)]
      have hWt := fin3 ⟨by rw [y92]; exact hx.ext hT allE, Or.inr (Or.inr (Or.inl ⟨q94, by rw [y95]; exact b.ext hT allE, by rw [y96]; exact ht.ext hT allE, rfl, rfl⟩))⟩
      have h97 : TJ y (y.2.1 97 k) := by rw [y97]; exact c.ext hT allE
      exact g_beginJob hu hWt (by omega) (by omega) h97.1 (fun _ => h97.2) hbz (by rw [q1 59 (by decide), q1 60 (by decide)]; exact zn) n0 hq
    · have S : SP fJ z (iA (iI (iA z 108 C' t) 109 (C' + 1)) 94 (k : Int) 4) 0 0 := SP.same zW (fun _ h => h) (((Fx_A (k := 108) rfl).tr (Fx_I (k := 109) rfl)).tr (Fx_A (k := 94) rfl)) (fun g hg => ⟨if_neg (by omega), (iA_other (by omega)).trans (iA_other (by omega))⟩) rfl rfl rfl rfl zW.2.2.2.1
      exact g_beginStop hu (zWt.2.1.tr hu S) (S.wi zW) (by omega) (by omega) h61 n0 hq
  · -- 4
    refine br_n (by omega) (br_n (by omega) (br_y a (rd_i fun _ => ov_i (by omega) (by omega) (sw_i ?_))))
    subst d
    rw [show w.1 109 - 1 = C' from by omega]
    obtain ⟨f1, f2, f3⟩ := fin (iI w 109 C') R (fun g g1 g2 g3 => if_neg g2) h104 rfl (fun g hg _ => rfl) rfl (fun i hi => ⟨fun _ _ _ => rfl, rfl, fun _ _ _ => rfl⟩) (fun j _ => rfl)
    exact bd_i (by omega) (by omega) (rd_i fun _ => bd_i (by omega) (by omega) (rd_i fun _ => rd_i fun _ => g_join hu hB f1 (b.ext hT f2) (c.ext hT f2) (ht.ext hT f2) hn hq))
  · -- 5
    refine br_n (by omega) (br_n (by omega) (br_n (by omega) (br_y a (rd_i fun _ => ?_))))
    subst b
    have f1 := same c
    refine g_notOf hW.1 ht.1 (fun _ => ht.2) (by omega) fun t z hg hz hzs _ _ _ => rd_i fun _ => ?_
    have gF := hg.2.2.1
    have zWt := f1.sp hu (hg.sp hW)
    have zW := zWt.1
    have zm := zW.1.1.2.1
    have zbud := zWt.bud hB
    have z110 : z.1 110 = w.1 110 := fx_s gF 110 rfl
    have hzc : TJ z (z.1 110) := by rw [z110]; exact ht.ext hT hg.2.1
    have zn : 5 * (z.1 59 - z.1 60) + 2 * ((k + 1 : Nat) : Int) ≤ n := by rw [fx_s gF 59 rfl, fx_s gF 60 rfl]; exact hn
    have k224 : ∀ (y : iST) (d x : Int), Wt u y (k + 1) k R R C' d (2 + 0 + 0) → d ≤ 20 → IsT y x → Sm y x → 5 * (y.1 59 - y.1 60) + 2 * ((k + 1 : Nat) : Int) ≤ n → w_takeResult_224 Q k x y := by
      intro y d x hy hd hx2 hs2 yn
      have rx := hx2.r
      have k248 : ∀ t, IsT y t → Sm y t → w_takeResult_248 Q t y := fun t ht hts => by
        unfold w_takeResult_248
        exact g_end0 hu hy hd (by decide) ht hts yn hq
      unfold w_takeResult_224
      exact s_isConstant hy.1.1.1 rx.1 rx.2 fun r _ _ => br_i (fun _ => bd_i (by omega) (by omega) (rz_i fun _ => s_lookedUp2 hy.1.1.1 hy.2.2.2.2.2.2.2 rx.1 rx.2 (k248 _ hx2 hs2) fun r hr => k248 r hr.1 (fun _ => hr.2))) fun _ => k248 _ hx2 hs2
    have kt : w_takeResult_224 Q k t z := k224 z _ t (zWt.mono (Int.le_refl _) (by decide)) (by omega) hz hzs zn
    have rz := hzc.1.r
    have rt := hz.r
    refine s_isCallOf rz.1 (by omega) fun r _ _ => br_i (fun _ => kt) fun _ => s_isBoolean rt.1 (by omega) fun r _ => br_i (fun _ => kt) fun _ => bd_i (by omega) (by omega) (rz_i fun _ => br_i (fun _ => kt) fun _ => rd_i fun _ => ?_)
    refine g_made1 zW.1 hzc.1 (by decide) (by decide) (by omega) fun t2 y hy _ => ?_
    exact k224 y _ t2 (zWt.sp hu (hy.1.sp zW)) (by omega) hy.2.1 hy.2.2.1 (by rw [fx_s hy.1.2.2.1 59 rfl, fx_s hy.1.2.2.1 60 rfl]; exact zn)
  · -- 10
    refine br_n (by omega) (br_n (by omega) (br_n (by omega) (br_n (by omega) (br_y a (rd_i fun _ => rd_i fun _ => bd_i (by omega) (by omega) (sw_i (rd_i fun _ => ov_i (show -2147483648 ≤ w.1 104 + 1 by omega) (show w.1 104 + 1 < 2147483648 by omega) (sw_i ?_))))))))
    show w_nextTerm k (fun u => Q u) (iI (iA w 103 (w.1 104) (w.1 110)) 104 (w.1 104 + 1))
    rw [h104]
    have g103 : ∀ j, (iI (iA w 103 R (w.1 110)) 104 (R + 1)).2.1 103 j = if j = R then w.1 110 else w.2.1 103 j := fun j => iA_same
    have vg : ∀ g, g ≠ 103 → (iI (iA w 103 R (w.1 110)) 104 (R + 1)).2.1 g = w.2.1 g := fun g hg => iA_other hg
    obtain ⟨f1, f2, f3⟩ := fin (iI (iA w 103 R (w.1 110)) 104 (R + 1)) (R + 1) (fun g g1 g2 g3 => if_neg g1) rfl (by show w.1 109 = C'; omega) (fun g _ hg => vg g hg) rfl (fun i hi => ⟨fun g g1 g2 => by rw [vg g (by omega)], by rw [vg 107 (by decide)], fun j _ _ => by rw [vg 106 (by decide)]⟩) (fun j hj => by rw [g103, if_neg (by omega)])
    have v1 : ∀ g, g ≠ 104 → (iI (iA w 103 R (w.1 110)) 104 (R + 1)).1 g = w.1 g := fun g hg => if_neg hg
    generalize iI (iA w 103 R (w.1 110)) 104 (R + 1) = v at *
    refine g_nextTerm (x := w.2.1 92 k) (R := R') (T := R + 1) (C := C') (n := n) hu hB ⟨f1, by rw [vg 92 (by decide)], hx.ext hT f2, by unfold Call; rw [vg 0 (by decide)]; exact b, by rw [v1 59 (by decide), v1 60 (by decide)]; exact hn, by rw [vg 0 (by decide)]; exact c, by rw [vg 94 (by decide)]; exact a, by rw [vg 99 (by decide)]; exact d5, ⟨nn, m, d1, by rw [vg 0 (by decide)]; exact f2.2.2 _ _ b.1 d2, by rw [vg 98 (by decide)]; exact d3.ext hT f2.1, by rw [vg 98 (by decide)]; exact (d4.ext f2.1 d3).imp (fun y hy => hy.ext hT f2), by omega, by omega⟩, fun i i0 i1 => ?_⟩ hq
    rw [g103]
    by_cases e : i = R
    · rw [if_pos e]; exact ht.ext hT f2
    · rw [if_neg e]; exact (p i i0 (by omega)).ext hT f2
  · -- 31
    refine br_n (by omega) (br_n (by omega) (br_n (by omega) (br_n (by omega) (br_n (by omega) (br_y a (rd_i fun _ => ?_))))))
    subst e
    have hK : K0 u w k n R C' (w.2.1 92 k) 10 2 := ⟨same f, rfl, hx, b, hn⟩
    have r60 := hW.2.2.1.2.1
    obtain ⟨j1, j2, j3, j4, j5⟩ := c
    have j6 := j3.2.2.2.2.1
    refine br_i (fun _ => bd_i (by omega) (by omega) (rd_i fun _ => ov_i (by omega) (by omega) (g_tryRules hu hB hK (by decide) (by decide) (by omega) (by omega) hq))) fun _ => bd_i (by omega) (by omega) (rd_i fun _ => ov_i (by omega) (by omega) (bd_i (by omega) (by omega) (sw_i ?_)))
    have hv := hK.set (g := 101) (a := w.2.1 101 k + 1) hu (by decide) (by decide)
    have hE := (SP.rows (v := iA w 101 (k : Int) (w.2.1 101 k + 1)) hW (Fx_A (k := 101) rfl) rfl).2.1
    have vF : Fx fJ w (iA w 101 (k : Int) (w.2.1 101 k + 1)) := Fx_A (k := 101) rfl
    have v101 : (iA w 101 (k : Int) (w.2.1 101 k + 1)).2.1 101 k = w.2.1 101 k + 1 := by rw [iA_same, if_pos rfl]
    have vg : ∀ g, g ≠ 101 → (iA w 101 (k : Int) (w.2.1 101 k + 1)).2.1 g = w.2.1 g := fun g hg => iA_other hg
    generalize iA w 101 (k : Int) (w.2.1 101 k + 1) = v at *
    refine g_nextHypothesis hu hB hv.1 (by decide) (by decide) (by rw [hv.2.1]; exact hv.2.2.1) (by rw [hv.2.1]; exact hv.2.2.2.1) ⟨by rw [vg 100 (by decide)]; exact j1, by rw [vg 100 (by decide), fx_s vF 42 rfl]; exact j2, by rw [vg 100 (by decide)]; exact j3.ext hT hE vF, by rw [v101]; omega, j5.ext hT hE (by rw [vg 107 (by decide)]) (fun _ _ _ => by rw [vg 106 (by decide)])⟩ ?_ hv.2.2.2.2 hq
    rw [v101, vg 100 (by decide), vg 48 (by decide)]
    omega
  · -- 40
    refine br_n (by omega) (br_n (by omega) (br_n (by omega) (br_n (by omega) (br_n (by omega) (br_n (by omega) (br_y a (rd_i fun _ => ?_)))))))
    subst e
    have hK : K0 u w k n R C' (w.2.1 92 k) 10 2 := ⟨same f, rfl, hx, b, hn⟩
    have k352 : ∀ i : Int, i = 2 ∨ i = 3 → w_takeResult_352 Q (w.2.1 92 k) i w := by
      intro i hi
      unfold w_takeResult_352
      exact g_bodyOf hW hx b d0 d1 d2 (Or.inr ⟨by omega, by omega, d3⟩) (by omega) fun t z hz1 hz2 hz3 => (hK.sp hu hz1).passOn hu (by omega) (by omega) hz2 hz3 hq
    exact s_isConstant hT rc.1 rc.2 fun r _ _ => br_i (fun _ => bd_i (by omega) (by omega) (rd_i fun _ => hK.end0 hu (by decide) (by decide) hx.1 (fun _ => hx.2) hq)) fun _ => bd_i (by omega) (by omega) (rd_i fun _ => rd_i fun _ => br_i (fun _ => k352 2 (Or.inl rfl)) fun _ => k352 3 (Or.inr rfl))
  · -- 90
    refine br_n (by omega) (br_n (by omega) (br_n (by omega) (br_n (by omega) (br_n (by omega) (br_n (by omega) (br_n (by omega) (rd_i fun _ => ?_)))))))
    subst b
    exact g_end0 hu (same c) (by decide) (by decide) ht.1 (fun _ => ht.2) hn hq
/-- the first job: its STEP pays for nothing else -/
theorem g_beginFirst {u w : iST} {t tr : Int} {Q : iST → Prop} (hW : WI u) (hC : CX u) (h2 : w.2 = u.2) (h1 : ∀ g, g ≠ 102 → g ≠ 104 → g ≠ 111 → w.1 g = u.1 g) (h102 : w.1 102 = 0) (h104 : w.1 104 = 0) (ht : IsT u t) (hs : Sm u t) (htr : bz tr) (hstop : ∀ v, SP fJ u v 600 16 → WI v → v.1 61 ≠ 0 → Q v) (hq : u.1 61 = 0 → u.1 60 ≠ u.1 59 → ∀ (N : Nat) v, EX (iI u 60 (u.1 60 + 1)) N v → Q v) : w_beginJob t tr Q w := by
  have hu := hW.1.1
  obtain ⟨a2, a1, aE, aF⟩ := SP.num (v := w) hu (SP.rf (n := fJ) hW) hW h2 (fun g g1 g2 g3 g4 g5 g6 => h1 g g2 g3 g6)
  have w61 := h1 61 (by decide) (by decide) (by decide)
  have w60 := h1 60 (by decide) (by decide) (by decide)
  have w59 := h1 59 (by decide) (by decide) (by decide)
  have hwi := a1.2.2.2.2.2
  unfold w_beginJob
  refine zt_0 (sw_i (rd_i fun _ => br_i (fun h61 => rd_i fun _ => br_i (fun hne => ?_) (fun he => absurd (show w.1 102 ≠ 60 by omega) he)) (fun h61 => ?_)))
  · have h61 : w.1 61 = 0 := h61
    refine s_isStep hwi.1 (show w.1 60 ≤ 1000 by omega) (fun hst => br_y (by decide) ?_) (fun v hv hv61 => br_n (fun z => z rfl) ?_)
    · have hst : w.1 60 ≠ w.1 59 := hst
      refine rd_i fun _ => bd_i (show 0 ≤ w.1 102 by omega) (show w.1 102 < 60 by omega) (sw_i (rd_i fun _ => ?_))
      refine (show zt tr _ from ⟨htr, ?_⟩)
      refine bd_i (show 0 ≤ w.1 102 by omega) (show w.1 102 < 60 by omega) (sw_i (rd_i fun _ => bd_i (show 0 ≤ w.1 102 by omega) (show w.1 102 < 60 by omega) (sw_i (rd_i fun _ => ov_i (show -2147483648 ≤ w.1 102 + 1 by omega) (show w.1 102 + 1 < 2147483648 by omega) (sw_i ?_)))))
      show Q (iI (iA (iA (iA (iI (iI w 111 0) 60 (w.1 60 + 1)) 92 (w.1 102) t) 93 (w.1 102) tr) 94 (w.1 102) 0) 102 (w.1 102 + 1))
      rw [h102, w60]
      generalize hv : iI (iA (iA (iA (iI (iI w 111 0) 60 (u.1 60 + 1)) 92 0 t) 93 0 tr) 94 0 0) 102 ((0 : Int) + 1) = v
      have hU : SP fM u (iI u 60 (u.1 60 + 1)) (-260) (-4) := SP.step hW (by omega)
      have hUW := (hU.up fM_J).wi hW
      have hUr : (iI u 60 (u.1 60 + 1)).2 = u.2 := rfl
      have hU1 : ∀ g, g ≠ 60 → (iI u 60 (u.1 60 + 1)).1 g = u.1 g := fun g hg => if_neg hg
      have hU60 : (iI u 60 (u.1 60 + 1)).1 60 = u.1 60 + 1 := rfl
      refine hq (by omega) (by omega) (5 * (u.1 59 - u.1 60) - 2).toNat v ?_
      generalize iI u 60 (u.1 60 + 1) = U at *
      have v1 : ∀ g, g ≠ 111 → g ≠ 60 → g ≠ 102 → g ≠ 104 → v.1 g = U.1 g := fun g g1 g2 g3 g4 => by rw [← hv, hU1 g g2, ← h1 g g3 g4 g1]; exact (if_neg g3).trans ((if_neg g2).trans (if_neg g1))
      have v60 : v.1 60 = U.1 60 := by rw [hU60, ← hv]; rfl
      have v102 : v.1 102 = 1 := by rw [← hv]; rfl
      have v104 : v.1 104 = 0 := by rw [← hv]; exact h104
      have v111 : v.1 111 = 0 := by rw [← hv]; rfl
      have v92 : v.2.1 92 0 = t := by rw [← hv]; rfl
      have vL : v.2.2 = U.2.2 := by rw [hUr, ← h2, ← hv]; rfl
      have vg : ∀ g, g ≠ 92 → g ≠ 93 → g ≠ 94 → v.2.1 g = U.2.1 g := fun g g1 g2 g3 => by rw [hUr, ← h2, ← hv]; exact (if_neg g3).trans ((if_neg g2).trans (if_neg g1))
      clear hv
      have vt : ∀ k, k ≤ 11 → v.1 k = U.1 k ∧ v.2.1 k = U.2.1 k := fun k hk => ⟨v1 k (by omega) (by omega) (by omega) (by omega), vg k (by omega) (by omega) (by omega)⟩
      have vF : Fx fJ U v := fun k hk => by
        have : k < 92 ∧ k ≠ 60 ∨ 113 < k := by simp [fJ, fM] at hk; omega
        exact ⟨v1 k (by omega) (by omega) (by omega) (by omega), vg k (by omega) (by omega) (by omega)⟩
      have S : SP fJ U v 0 0 := SP.same hUW (fun _ h => h) vF vt vL (v1 69 (by decide) (by decide) (by decide) (by decide)) (v1 71 (by decide) (by decide) (by decide) (by decide)) v60 (OI_eq hUW.2.2.2.1 (v1 16 (by decide) (by decide) (by decide) (by decide)) (v1 22 (by decide) (by decide) (by decide) (by decide)))
      have v109 : v.1 109 = U.1 109 := v1 109 (by decide) (by decide) (by decide) (by decide)
      have hCU : CX U := hC.ext hu hU.2.1 (hU1 109 (by decide)) (by rw [hUr])
      have v59 := fx_s vF 59 rfl
      have U59 := hU1 59 (by decide)
      refine ⟨S.mono (by decide) (by decide), S.wi hUW, fun _ => ⟨1, 0, U.1 109, Or.inl ⟨v111, 0, rfl, ⟨S.wi hUW, S.mono (by decide) (by decide), v102, by decide, ⟨rfl, rfl⟩, v104, v109, hCU.ext hUW.1.1 S.2.1 v109 (vg 108 (by decide) (by decide) (by decide))⟩, ?_, by omega⟩⟩⟩
      show TJ v (v.2.1 92 0)
      rw [v92]
      exact TJ.ext hUW.1.1 S.2.1 (TJ.ext hu hU.2.1 ⟨ht, hs (by omega)⟩)
    · obtain ⟨b1, b2, _⟩ := SP.num (v := v) hu a2 a1 (by rcases hv with rfl | rfl <;> rfl) (fun g g1 g2 g3 g4 g5 g6 => by rcases hv with rfl | rfl; exact if_neg g6; exact (if_neg g1).trans (if_neg g6))
      exact hstop v (b1.mono (by decide) (by decide)) b2 hv61
  · obtain ⟨b1, b2, _⟩ := SP.num (v := iI w 111 0) hu a2 a1 rfl (fun g g1 g2 g3 g4 g5 g6 => if_neg g6)
    exact hstop _ (b1.mono (by decide) (by decide)) b2 h61
/-- a small term is rewritten: at most 260 objects and 4 naturals a STEP, and 250 less for the first -/
theorem g_rewritten {o tr : Int} {Q : Int → iST → Prop} {u : iST} (hW : WI u) (hB : Bud u) (hC : CX u) (hc1 : u.1 109 ≤ 130) (ho : IsT u o) (hs : Sm u o) (htr : bz tr) (hq : ∀ r v, SP fJ u v 600 16 → WI v → (v.1 61 = 0 → SP fJ u v (-250) (-2) ∧ u.1 60 < v.1 60 ∧ TJ v r ∧ v.1 109 = u.1 109 ∧ CX v) → Q r v) : w_rewritten o tr Q u := by
  have hu := hW.1.1
  unfold w_rewritten
  refine sw_i (sw_i (zt_0 (sw_i ?_)))
  have stopped : ∀ v, SP fJ u v 600 16 → WI v → v.1 61 ≠ 0 → w_rewritten_21 Q v := by
    intro v hv hvW h61
    unfold w_rewritten_21
    refine lr0 (B := fun R u => w_rewritten_21b R Q u) (fun _ z => z = v) ?_ (n := 0) rfl
    intro N z hz R ih
    subst hz
    unfold w_rewritten_21b
    exact rd_i fun _ => br_y h61 (rd_i fun _ => hq _ z hv hvW (fun q => absurd q h61))
  refine g_beginFirst hW hC rfl (fun g g1 g2 g3 => (if_neg g3).trans ((if_neg g2).trans (if_neg g1))) rfl rfl ho hs htr stopped fun h61 hst N v hv => ?_
  have hU : SP fM u (iI u 60 (u.1 60 + 1)) (-260) (-4) := SP.step hW hst
  have hUW := (hU.up fM_J).wi hW
  have hU1 : ∀ g, g ≠ 60 → (iI u 60 (u.1 60 + 1)).1 g = u.1 g := fun g hg => if_neg hg
  have hU60 : (iI u 60 (u.1 60 + 1)).1 60 = u.1 60 + 1 := rfl
  have hBU : Bud (iI u 60 (u.1 60 + 1)) := by
    unfold Bud at *
    rw [hU1 8 (by decide), hU1 59 (by decide), hU1 6 (by decide), hU60]
    omega
  generalize iI u 60 (u.1 60 + 1) = U at *
  have hUT := hUW.1.1
  have U109 := hU1 109 (by decide)
  have c0 := hC.1
  unfold w_rewritten_21
  refine lr0 (B := fun R u => w_rewritten_21b R Q u) (fun N v => EX U N v) ?_ (n := N) hv
  intro N v hI R ih
  obtain ⟨e1, e2, e3⟩ := hI
  have total : ∀ d e, SP fJ U v d e → SP fJ u v (-260 + d) (-4 + e) := fun d e h => (hU.up fM_J).tr hu h
  unfold w_rewritten_21b
  refine rd_i fun _ => br_i (fun h61 => rd_i fun _ => hq _ v ((total _ _ e1).mono (by decide) (by decide)) e2 (fun z => absurd z h61)) fun h61 => ?_
  obtain ⟨J, R', C, hh⟩ := e3 (by omega)
  rcases hh with ⟨f1, k, rfl, f2, f3, f4⟩ | ⟨f1, f2, f3, f4⟩
  · have f102 := f2.2.2.1
    refine rd_i fun _ => br_n (by omega) (rd_i fun _ => ov_i (by omega) (by omega) ?_)
    rw [show v.1 102 - 1 = (k : Int) from by omega]
    exact rz_i fun _ => br_y f1 (g_startJob hUT hBU f2 f3 (by omega) fun M z hz hM => ih M z hM hz)
  · have f102 := f2.2.2.1
    refine rd_i fun _ => br_i (fun hle => rd_i fun _ => hq _ v ((total _ _ e1).mono (by decide) (by decide)) e2 (fun _ => ?_)) fun hgt => rd_i fun _ => ov_i (by omega) (by omega) ?_
    · have : J = 0 := by omega
      subst this
      have h2 := f2.2.1
      have h60 := h2.2.2.2.2.2.1
      refine ⟨(total _ _ h2).mono (by decide) (by decide), by omega, f3, ?_, f2.2.2.2.2.2.2.2⟩
      rw [f2.2.2.2.2.2.2.1, f2.2.2.2.2.1.2]
      exact U109
    · obtain ⟨k, rfl⟩ : ∃ k, J = k + 1 := ⟨J - 1, by omega⟩
      rw [show v.1 102 - 1 = (k : Int) from by omega]
      exact rz_i fun _ => br_n f1 (g_takeResult hUT hBU (by omega) (by omega) f2 f3 (by omega) fun M z hz hM => ih M z hM hz)
