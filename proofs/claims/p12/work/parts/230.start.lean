/-! a job starts; its terms, one after another -/
theorem Wt.n104 {u w : iST} {J k : Nat} {R T T' C d e : Int} (hu : TI u) (h : Wt u w J k R T C d e) : Wt u (iI w 104 T') J k R T' C d e := by
  obtain ⟨a1, a2, a3, a4, a5, a6, a7, a8⟩ := h
  obtain ⟨b1, b2, b3, b4⟩ := SP.num (v := iI w 104 T') hu a2 a1 rfl (fun g g1 g2 g3 g4 g5 g6 => if_neg g3)
  exact ⟨b2, b1, a3, a4, a5.ext a1 b3 b4 (fun i _ => ⟨fun _ _ _ => rfl, rfl, fun _ _ _ => rfl⟩) (fun _ _ _ => rfl), rfl, a7, a8.ext a1.1.1 b3 rfl rfl⟩
def K10 (u w : iST) (k n : Nat) (R T C x : Int) : Prop := Wt u w (k + 1) k R T C 10 2 ∧ w.2.1 92 k = x ∧ TJ w x ∧ Call w x ∧ 5 * (w.1 59 - w.1 60) + 2 * ((k + 1 : Nat) : Int) ≤ n ∧ w.2.1 0 x ≠ 3 ∧ w.2.1 94 k = 10 ∧ w.2.1 99 k = R ∧ (∃ nn m : Nat, nn ≤ 6 ∧ Ar w (w.2.1 0 x) nn ∧ IsL w (w.2.1 98 k) m ∧ AllE w (TJ w) (w.2.1 98 k) m ∧ R ≤ T ∧ T + m = R + nn) ∧ ∀ i, R ≤ i → i < T → TJ w (w.2.1 103 i)
theorem g_nextTerm {u w : iST} {k n : Nat} {R T C x : Int} {Q : iST → Prop} (hu : TI u) (hB : Bud u) (h : K10 u w k n R T C x) (hq : ∀ (N : Nat) v, EX u N v → N < n → Q v) : w_nextTerm k Q w := by
  obtain ⟨h1, h2, h3, h4, h5, h6, h7, h8, ⟨nn, m, p1, p2, p3, p4, p5, p6⟩, h10⟩ := h
  have hk := h1.2.2.2.1
  have hW := h1.1
  have hT := hW.1.1
  have hm := hT.2.1
  have bud := h1.bud hB
  have rx := h3.1.r
  have hR := h1.2.2.2.2.1.r
  unfold w_nextTerm
  refine bd_i (by omega) (by omega) (rd_i fun _ => br_i (fun hne => ?_) (fun heq => ?_))
  · obtain ⟨m', rfl⟩ : ∃ m', m = m' + 1 := by
      cases m with
      | zero => exact absurd p3 hne
      | succ m' => exact ⟨m', rfl⟩
    have hl := p3.2.1
    refine bd_i (by omega) (by omega) (rd_i fun _ => bd_i p3.1 (by omega) (rd_i fun _ => bd_i (by omega) (by omega) (rd_i fun _ => bd_i p3.1 (by omega) (rd_i fun _ => bd_i (by omega) (by omega) (sw_i ?_)))))
    have hv := h1.set (g := 98) (x := w.2.1 1 (w.2.1 98 k)) hu (by decide) (by decide)
    have hE := (SP.rows (v := iA w 98 (k : Int) (w.2.1 1 (w.2.1 98 k))) hW (Fx_A (k := 98) rfl) rfl).2.1
    have v98 : (iA w 98 (k : Int) (w.2.1 1 (w.2.1 98 k))).2.1 98 k = w.2.1 1 (w.2.1 98 k) := by rw [iA_same, if_pos rfl]
    have vg : ∀ g, g ≠ 98 → (iA w 98 (k : Int) (w.2.1 1 (w.2.1 98 k))).2.1 g = w.2.1 g := fun g hg => iA_other hg
    have v1 : (iA w 98 (k : Int) (w.2.1 1 (w.2.1 98 k))).1 = w.1 := rfl
    generalize iA w 98 (k : Int) (w.2.1 1 (w.2.1 98 k)) = v at *
    refine g_beginJob hu (hv.wait ⟨?_, ?_⟩) (by decide) (by decide) (p4.1.1.ext hT hE) (fun _ => (p4.1.ext hT hE).2) (Or.inl rfl) (by rw [v1]; exact h5) (by have := hW.2.2.2.2.2.2.1; omega) hq
    · rw [vg 92 (by decide), h2]; exact h3.ext hT hE
    · refine Or.inr (Or.inr (Or.inr (Or.inr (Or.inl ⟨?_, ?_, ?_, ⟨nn, m', p1, ?_, ?_, ?_, ?_, p5, by omega⟩, fun i i0 i1 => ?_, rfl⟩))))
      · rw [vg 94 (by decide)]; exact h7
      · unfold Call; rw [vg 92 (by decide), vg 0 (by decide), h2]; exact h4
      · rw [vg 92 (by decide), vg 0 (by decide), h2]; exact h6
      · rw [vg 92 (by decide), vg 0 (by decide), h2]; exact hE.2.2 _ _ h4.1 p2
      · rw [v98]; exact p3.2.2.2.ext hT hE.1
      · rw [v98]; exact (p4.2.ext hE.1 p3.2.2.2).imp (fun y hy => hy.ext hT hE)
      · rw [vg 99 (by decide)]; exact h8
      · rw [vg 103 (by decide)]; exact (h10 i i0 i1).ext hT hE
  · have heq : w.2.1 98 k = 0 := by omega
    have em : m = 0 := by
      cases m with
      | zero => rfl
      | succ m' =>
        have := p3.2.2.1
        rw [heq] at this
        have := hT.2.2.2.2.2.2.2.2.1 0 (by decide) (by decide)
        omega
    subst em
    refine rd_i fun _ => bd_i (by omega) (by omega) (rd_i fun _ => ?_)
    rw [hW.1.2.2.2, h8]
    unfold w_nextTerm_21
    refine lf3 (B := fun R x1 x2 x3 u => w_nextTerm_21b R Q x1 x2 x3 u) (fun x1 x2 x3 v => x1 = k ∧ x2 = 0 ∧ ∃ j : Nat, x3 = R + j ∧ j ≤ nn ∧ (∀ g, g ≠ 71 → v.1 g = w.1 g) ∧ (∀ g, g ≠ 70 → v.2.1 g = w.2.1 g) ∧ v.2.2 = w.2.2 ∧ v.1 71 = j ∧ ∀ i : Nat, i < j → v.2.1 70 i = w.2.1 103 (R + i)) (fun _ _ x3 _ => (T - x3).toNat) ?_ ⟨rfl, rfl, 0, by omega, by omega, fun _ _ => rfl, fun _ _ => rfl, rfl, hW.1.2.2.2, fun i hi => by omega⟩
    intro x1 x2 x3 v hI Rr ih
    obtain ⟨rfl, rfl, j, rfl, j1, q1, q2, q3, q4, q5⟩ := hI
    unfold w_nextTerm_21b
    refine rd_i fun _ => ?_
    rw [q1 104 (by decide), h1.2.2.2.2.2.1]
    refine br_i (fun hle => ?_) (fun hgt => ?_)
    · have ej : j = nn := by omega
      subst ej
      refine bd_i (by omega) (by omega) (rd_i fun _ => ?_)
      rw [q2 92 (by decide), h2]
      refine bd_i rx.1 (by omega) (rd_i fun _ => ?_)
      rw [q2 0 (by decide)]
      show w_made_33 (fun t u => w_nextTerm_83 Q k t u) (w.2.1 0 x) 0 v
      have hp := hT.pair rx.1 rx.2 h4.1
      refine g_made33 (n := j) hW.1 q1 q2 q3 q4 p1 (fun i hi => by rw [q5 i hi]; exact (h10 _ (by omega) (by omega)).1) h4.1 (by omega) p2 (by omega) fun t z hz _ => ?_
      have gF := hz.1.2.2.1
      have hzW := h1.sp hu (hz.1.sp hW)
      have z8 : z.2.1 99 k = R := by rw [fx_a gF 99 rfl]; exact h8
      show w_nextTerm_83 Q k t z
      unfold w_nextTerm_83
      refine bd_i (by omega) (by omega) (rd_i fun _ => ?_)
      rw [z8]
      refine sw_i (bd_i (by omega) (by omega) (sw_i ?_))
      have hyW := (hzW.n104 (T' := R) hu).set (g := 92) (x := t) hu (by decide) (by decide)
      have hEa : ExtT z (iI z 104 R) := (SP.num (v := iI z 104 R) hu hzW.2.1 hzW.1 rfl (fun g g1 g2 g3 g4 g5 g6 => if_neg g3)).2.2.1
      have hEb := (SP.rows (v := iA (iI z 104 R) 92 (k : Int) t) (hzW.n104 (T' := R) hu).1 (Fx_A (k := 92) rfl) rfl).2.1
      have hE := hEa.tr hzW.1.1.1 hEb
      have y92 : (iA (iI z 104 R) 92 (k : Int) t).2.1 92 k = t := by rw [iA_same, if_pos rfl]
      have y1 : ∀ g, g ≠ 104 → (iA (iI z 104 R) 92 (k : Int) t).1 g = z.1 g := fun g hg => if_neg hg
      have y0 : (iA (iI z 104 R) 92 (k : Int) t).2.1 0 = z.2.1 0 := iA_other (by decide)
      generalize iA (iI z 104 R) 92 (k : Int) t = y at *
      refine rd_i fun _ => br_i (fun h61 => hq 0 y (hyW.stop (by omega) (by omega) h61) (by have := hW.2.2.2.2.2.2.1; omega)) fun h61 => ?_
      have e61 : z.1 61 = 0 := by rw [← y1 61 (by decide)]; omega
      have ht : TJ z t := ⟨hz.2.1, hz.2.2.1 e61⟩
      refine g_apply (x := t) (R := R) (C := C) (n := n) hu hB ⟨hyW.mono (by omega) (by omega), y92, ht.ext hzW.1.1.1 hE, ?_, ?_⟩ ?_ hq
      · unfold Call; rw [y0, hz.2.2.2.1]; exact h4
      · rw [y1 59 (by decide), y1 60 (by decide), fx_s gF 59 rfl, fx_s gF 60 rfl]; exact h5
      · rw [y0, hz.2.2.2.1]; exact h6
    · refine bd_i (by omega) (by omega) (rd_i fun _ => s_build (by omega) (by omega) (ov_i (by omega) (by omega) (ih _ _ _ _ ⟨rfl, rfl, j + 1, by omega, by omega, fun g hg => (if_neg hg).trans (q1 g hg), fun g hg => (iA_other hg).trans (q2 g hg), q3, ?_, fun i hi => ?_⟩ (by omega))))
      · show v.1 71 + 1 = ((j + 1 : Nat) : Int)
        omega
      · show (iA v 70 (v.1 71) (v.2.1 103 (R + j))).2.1 70 i = _
        rw [iA_same, q4, q2 103 (by decide)]
        by_cases e : i = j
        · rw [if_pos (by omega), e]
        · rw [if_neg (by omega)]; exact q5 i (by omega)
theorem g_startJob {u w : iST} {k n : Nat} {R C : Int} {Q : iST → Prop} (hu : TI u) (hB : Bud u) (h : Wt u w (k + 1) k R R C 10 2) (hj : TJ w (w.2.1 92 k)) (hn : 5 * (w.1 59 - w.1 60) + 2 * ((k + 1 : Nat) : Int) ≤ n) (hq : ∀ (N : Nat) v, EX u N v → N < n → Q v) : w_startJob k Q w := by
  have hk := h.2.2.2.1
  have hW := h.1
  have hT := hW.1.1
  have hm := hT.2.1
  have bud := h.bud hB
  have rx := hj.1.r
  have hn0 : 0 < n := by have := hW.2.2.2.2.2.2.1; omega
  unfold w_startJob
  refine bd_i (by omega) (by omega) (rd_i fun _ => s_isConstant hT rx.1 rx.2 fun r _ hr => br_i (fun hz => ?_) (fun _ => g_end0 hu h (by decide) (by decide) hj.1 (fun _ => hj.2) hn hq))
  have hnc : ¬ Cst w (w.2.1 92 k) := fun z => hr.mpr z hz
  refine s_isVariable rx.1 (by omega) fun r2 _ hr2 => br_i (fun hz2 => ?_) (fun _ => bd_i (by omega) (by omega) (rz_i fun _ => s_lookedUp hT h.2.2.2.2.2.2.2 hj fun t ht => g_end0 hu h (by decide) (by decide) ht.1 (fun _ => ht.2) hn hq))
  have hnv : ¬ (w.2.1 0 (w.2.1 92 k) = -2 ∧ w.2.1 92 k ≠ 0 ∧ w.2.1 92 k ≠ 1) := fun z => hr2.mpr z hz2
  have hc : Call w (w.2.1 92 k) := by
    rcases hj.1.step.2.2 with z | z | z
    · exfalso
      have hkd := hT.kind rx.1 rx.2
      have a1 : w.2.1 0 (w.2.1 92 k) ≠ -1 := fun q => hnc (Or.inl q)
      have a2 : w.2.1 92 k ≠ 0 := fun q => hnc (Or.inr (Or.inl q))
      have a3 : w.2.1 92 k ≠ 1 := fun q => hnc (Or.inr (Or.inr (Or.inl q)))
      unfold KindOk at hkd
      rcases hkd with q | q | q
      · exact a1 q.1
      · exact hnv ⟨q.1, a2, a3⟩
      · omega
    · exact absurd (Or.inr (Or.inr (Or.inr z))) hnc
    · exact ⟨z.1, z.2.1⟩
  have hK : K0 u w k n R C (w.2.1 92 k) 10 2 := ⟨h, rfl, hj, hc, hn⟩
  generalize hx : w.2.1 92 k = x at *
  -- a phase in which it waits, for the first term
  have first : ∀ ph : Int, (3 ≤ w.2.1 0 x ∧ w.2.1 0 x ≤ 16) → (∀ z : iST, z.2.1 94 k = ph → z.2.1 92 k = x → z.2.1 0 x = w.2.1 0 x → TJ z x → Jb z k R R C C) → w_term x 1 (fun v10 u => w_beginJob v10 1 (fun u => Q u) u) (iA w 94 k ph) := by
    intro ph h0 hJ
    have hv := hK.set (g := 94) (a := ph) hu (by decide) (by decide)
    have v94 : (iA w 94 (k : Int) ph).2.1 94 k = ph := by rw [iA_same, if_pos rfl]
    have v0 : (iA w 94 (k : Int) ph).2.1 0 = w.2.1 0 := iA_other (by decide)
    generalize iA w 94 (k : Int) ph = v at *
    refine t_base hv.1.1.1.1 hv.2.2.1 (by rw [v0]; exact h0.1) (by rw [v0]; exact h0.2) (Or.inl rfl) fun t ht => ?_
    exact g_beginJob hu (hv.1.wait (hJ v v94 hv.2.1 (by rw [v0]) hv.2.2.1)) (by decide) (by decide) ht.1 (fun _ => ht.2) (Or.inr rfl) hv.2.2.2.2 hn0 hq
  refine bd_i rx.1 (by omega) (rd_i fun _ => br_i (fun n3 => bd_i rx.1 (by omega) (rd_i fun _ => br_i (fun n6 => bd_i rx.1 (by omega) (rd_i fun _ => br_i (fun n15 => ?_) (fun e15 => ?_))) (fun e6 => ?_))) (fun e3 => ?_))
  · obtain ⟨m, c1, c2, c3, c4⟩ := hj.args hT hc
    refine bd_i (by omega) (by omega) (sw_i (bd_i rx.1 (by omega) (rd_i fun _ => bd_i (by omega) (by omega) (sw_i (rd_i fun _ => bd_i (by omega) (by omega) (sw_i ?_))))))
    have e104 : w.1 104 = R := h.2.2.2.2.2.1
    show w_nextTerm k (fun u => Q u) (iA (iA (iA w 94 k 10) 98 k (w.2.1 1 x)) 99 k (w.1 104))
    rw [e104]
    have hv := ((hK.set (g := 94) (a := 10) hu (by decide) (by decide)).set (g := 98) (a := w.2.1 1 x) hu (by decide) (by decide)).set (g := 99) (a := R) hu (by decide) (by decide)
    have v94 : (iA (iA (iA w 94 (k : Int) 10) 98 (k : Int) (w.2.1 1 x)) 99 (k : Int) R).2.1 94 k = 10 := by rw [iA_other (by decide), iA_other (by decide), iA_same, if_pos rfl]
    have v98 : (iA (iA (iA w 94 (k : Int) 10) 98 (k : Int) (w.2.1 1 x)) 99 (k : Int) R).2.1 98 k = w.2.1 1 x := by rw [iA_other (by decide), iA_same, if_pos rfl]
    have v99 : (iA (iA (iA w 94 (k : Int) 10) 98 (k : Int) (w.2.1 1 x)) 99 (k : Int) R).2.1 99 k = R := by rw [iA_same, if_pos rfl]
    have v0 : (iA (iA (iA w 94 (k : Int) 10) 98 (k : Int) (w.2.1 1 x)) 99 (k : Int) R).2.1 0 = w.2.1 0 := ((iA_other (by decide)).trans (iA_other (by decide))).trans (iA_other (by decide))
    have hE := (SP.rows (v := iA (iA (iA w 94 (k : Int) 10) 98 (k : Int) (w.2.1 1 x)) 99 (k : Int) R) hW (((Fx_A (k := 94) rfl).tr (Fx_A (k := 98) rfl)).tr (Fx_A (k := 99) rfl)) rfl).2.1
    generalize iA (iA (iA w 94 (k : Int) 10) 98 (k : Int) (w.2.1 1 x)) 99 (k : Int) R = v at *
    exact g_nextTerm (x := x) (R := R) (T := R) (C := C) (n := n) hu hB ⟨hv.1, hv.2.1, hv.2.2.1, hv.2.2.2.1, hv.2.2.2.2, by rw [v0]; exact n3, v94, v99, ⟨m, m, c1, by rw [v0]; exact hE.2.2 _ _ hc.1 c2, by rw [v98]; exact c3.ext hT hE.1, by rw [v98]; exact (c4.ext hE.1 c3).imp (fun y hy => hy.ext hT hE), Int.le_refl _, rfl⟩, fun i i0 i1 => by omega⟩ hq
  · exact bd_i (by omega) (by omega) (sw_i (first 5 (by omega) (fun z z1 z2 z3 z4 => ⟨by rw [z2]; exact z4, Or.inr (Or.inr (Or.inr (Or.inl ⟨z1, rfl, rfl⟩)))⟩)))
  · refine t_base hT hj (by omega) (by omega) (Or.inr (Or.inl ⟨rfl, by omega⟩)) fun a ha => g_made3 hW.1 ha.1 (TJ.c1 hT).1 (TJ.c0 hT).1 (by omega) fun t1 z1 hm1 => ?_
    have S1 := hm1.1.sp hW
    have hK1 := hK.sp hu S1
    have W1 := hK1.1.1
    have bud1 := hK1.1.bud hB
    have e0 := (S1.2.1.1.2.1 _ rx.1 rx.2).1
    refine t_base W1.1.1 hK1.2.2.1 (by omega) (by omega) (Or.inl rfl) fun b hb => g_made3 W1.1 hb.1 hm1.2.1 (TJ.c1 W1.1.1).1 (by omega) fun t2 z2 hm2 => ?_
    exact (hK1.sp hu (hm2.1.sp W1)).passOn hu (by omega) (by omega) hm2.2.1 hm2.2.2.1 hq
  · exact bd_i (by omega) (by omega) (sw_i (first 1 (by omega) (fun z z1 z2 z3 z4 => ⟨by rw [z2]; exact z4, Or.inl ⟨z1, by rw [z2, z3]; omega, rfl, rfl⟩⟩)))
