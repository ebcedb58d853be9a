/-! the class: going through a proof -/
abbrev gtS : List Nat := [10, 11, 12, 13, 29, 31, 32, 33, 34, 35, 39, 40, 41]
abbrev gtR : List Nat := [27, 28, 29, 30, 31, 32, 33, 34, 35, 36, 37, 38, 39, 40, 41, 42, 43, 46, 47, 48, 49, 53, 57]
def pf (u : iST) (k j : Int) : Int := u.2.1 53 (4 * k + j)
/-- the proofs that are not ended; h: how many clauses are held -/
def PKs (u : iST) : Nat → Int → Prop
  | 0, h => 1 ≤ h
  | d + 1, h => ∃ b, pf u d 3 = b ∧ 0 ≤ b ∧ b ≤ h ∧ (0 ≤ pf u d 0 ∧ pf u d 0 < u.1 29) ∧ (28 ≤ eL u (pf u d 0) ∧ eL u (pf u d 0) ≤ 43) ∧ (0 ≤ pf u d 2 ∧ pf u d 2 + pf u d 1 ≤ 200000 ∧ -10 ≤ pf u d 1) ∧ (0 < needN (eL u (pf u d 0)) → b + needN (eL u (pf u d 0)) ≤ h + pf u d 1) ∧ PKs u d (b + 1)
theorem PKs.ext {u v : iST} (hC : Ce u v) : ∀ {d : Nat} {h : Int}, (∀ k j : Int, 0 ≤ k → k < d → 0 ≤ j → j < 4 → pf v k j = pf u k j) → PKs u d h → PKs v d h
  | 0, _, _, q => q
  | d + 1, h, he, q => by
    obtain ⟨b, q1, q2, q3, q4, q5, q6, q7, q8⟩ := q
    have e0 := he d 0 (by omega) (by omega) (by decide) (by decide)
    have e1 := he d 1 (by omega) (by omega) (by decide) (by decide)
    have e2 := he d 2 (by omega) (by omega) (by decide) (by decide)
    have e3 := he d 3 (by omega) (by omega) (by decide) (by decide)
    have c := hC.1
    refine ⟨b, by rw [e3]; exact q1, q2, q3, by rw [e0]; omega, ?_, by rw [e1, e2]; exact q6, ?_, PKs.ext hC (fun k j k0 k1 j0 j1 => he k j k0 (by omega) j0 j1) q8⟩
    · rw [e0, (hC.el q4.2).1]; exact q5
    · rw [e0, e1, (hC.el q4.2).1]; exact q7
def HG (E : Int → Prop) (u : iST) (c : Int) : Prop := E c ∨ ∃ i, 0 ≤ i ∧ i < u.1 11 ∧ u.2.1 57 i = c
theorem HG.eq {E : Int → Prop} {u v : iST} (h1 : v.1 11 = u.1 11) (h2 : v.2.1 57 = u.2.1 57) : HG E v = HG E u := by
  funext c
  unfold HG
  rw [h1, h2]
def GT (E : Int → Prop) (u0 u : iST) : Prop := RG gtS gtR u0 u ∧ u.1 13 = u0.1 13 ∧ WK u ∧ CV (HG E u) u ∧ (0 ≤ u.1 33 ∧ u.1 33 ≤ 64) ∧ (0 ≤ u.1 13 ∧ u.1 13 ≤ 120) ∧ (0 ≤ u.1 11 ∧ u.1 11 ≤ 256) ∧ (0 ≤ u.1 10 ∧ u.1 10 ≤ 40) ∧ (0 ≤ u.1 31 ∧ u.1 31 ≤ u.1 30)
theorem GT.T {E : Int → Prop} {u0 u : iST} (h : GT E u0 u) : RT u := h.1.1
theorem GT.toPH {E : Int → Prop} {u0 u : iST} (h : GT E u0 u) : PH (HG E u) u u := ⟨RG.rf h.T, rfl, h.2.2.1, h.2.2.2.1, h.2.2.2.2.1, h.2.2.2.2.2.1⟩
/-- what the terms and clauses do -/
theorem GT.ph {E G : Int → Prop} {u0 u v : iST} (h : GT E u0 u) (g : PH G u v) (hG : ∀ c, HG E u c → G c) : GT E u0 v := by
  obtain ⟨a1, a2, a3, a4, a5, a6, a7, a8, a9⟩ := h
  obtain ⟨b1, b2, b3, b4, b5, b6⟩ := g
  have e11 : v.1 11 = u.1 11 := b1.s 11 (by decide)
  refine ⟨a1.tr (b1.w (by decide) (by decide)), b2.trans a2, b3, ?_, b5, b6, by rw [e11]; exact a7, by rw [b1.s 10 (by decide)]; exact a8, by rw [b1.s 31 (by decide), b1.s 30 (by decide)]; exact a9⟩
  rw [HG.eq e11 (b1.a 57 (by decide))]
  exact b4.less hG
theorem GT.rm {E : Int → Prop} {u0 u v : iST} (h : GT E u0 u) (g : RM u v) : GT E u0 v := h.ph (h.toPH.rm g) (fun _ z => z)
/-- numbers 10 and 12, and frames, are set -/
theorem GT.set {E : Int → Prop} {u0 u v : iST} (h : GT E u0 u) (g : RG [10, 12] [53] u v) (h10 : 0 ≤ v.1 10 ∧ v.1 10 ≤ 40) : GT E u0 v := by
  obtain ⟨a1, a2, a3, a4, a5, a6, a7, a8, a9⟩ := h
  have e11 : v.1 11 = u.1 11 := g.s 11 (by decide)
  refine ⟨a1.tr (g.w (by decide) (by decide)), (g.s 13 (by decide)).trans a2, a3.k g (by decide) (by decide) (by decide) (by decide), ?_, by rw [g.s 33 (by decide)]; exact a5, by rw [g.s 13 (by decide)]; exact a6, by rw [e11]; exact a7, h10, by rw [g.s 31 (by decide), g.s 30 (by decide)]; exact a9⟩
  rw [HG.eq e11 (g.a 57 (by decide))]
  exact a4.rg g (by decide) (by decide)
theorem GT.st {E : Int → Prop} {u0 u v : iST} (h : GT E u0 u) (g : RG tS1 mR u v) : GT E u0 v := by
  obtain ⟨a1, a2, a3, a4, a5, a6, a7, a8, a9⟩ := h
  have e11 : v.1 11 = u.1 11 := g.s 11 (by decide)
  refine ⟨a1.tr (g.w (by decide) (by decide)), (g.s 13 (by decide)).trans a2, a3.k g (by decide) (by decide) (by decide) (by decide), ?_, by rw [g.s 33 (by decide)]; exact a5, by rw [g.s 13 (by decide)]; exact a6, by rw [e11]; exact a7, by rw [g.s 10 (by decide)]; exact a8, by have := g.2.2.1.2.1; omega, g.2.2.1.2.2 a9.2⟩
  rw [HG.eq e11 (g.a 57 (by decide))]
  exact a4.rg g (by decide) (by decide)
theorem tpart : ∀ n : Nat, n < 15 → needN ((n : Int) + 28) ≤ yT_PART_COUNTS.getD n 0 ∧ yT_PART_COUNTS.getD n 0 ≤ 2 ∧ 0 ≤ yT_PART_COUNTS.getD n 0 := by decide
theorem tfirst : ∀ n : Nat, n < 16 → 0 ≤ yT_FIRST_PARTS.getD n 0 ∧ yT_FIRST_PARTS.getD n 0 ≤ 3 := by decide
theorem j_open {u0 u : iST} {d : Nat} {x h : Int} {E : Int → Prop} {Q : iST → Prop} (hG : GT E u0 u) (hd : u.1 10 = d) (hh : u.1 11 = h) (x0 : 0 ≤ x) (x1 : x < u.1 29) (hK : PKs u d (h + 1)) (hq : ∀ v, GT E u0 v → (v.1 12 ≠ -1 ∨ v.1 32 ≠ 0 ∨ (PKs v (d + 1) h ∧ v.1 10 = d + 1 ∧ v.1 11 = h ∧ v.1 31 = u.1 31 + 1 ∧ u.1 31 < u.1 30)) → Q v) : v_3_open x Q u := by
  have h0 := hG.2.2.2.2.2.2.1
  unfold v_3_open
  refine rd_i fun _ => br_i (fun hlt => j_step hG.T (fun a ha a31 alt a32 => br_y (by decide) ?_) fun a ha a31 a32 => br_n (fun z => z rfl) (hq a (hG.st ha) (Or.inr (Or.inl a32)))) fun _ => j_blame hG.T (by decide) fun a ha a32 => hq a (hG.rm ha) (Or.inr (Or.inl a32))
  have aG := hG.st ha
  have ax := ha.up x1
  have k45 : ∀ v, GT E u0 v → v_3_open_45 Q x v := by
    intro v vG
    unfold v_3_open_45
    refine sw_e fun w e => hq w (vG.set ?_ ?_) (Or.inl ?_)
    · rw [e]; exact (RG.rf vG.T).I _ (by decide) (by decide) (by decide)
    · rw [e]; exact vG.2.2.2.2.2.2.2.1
    · have : w.1 12 = x := by rw [e]; rfl
      omega
  refine j_isFormed aG.toPH (fun v vh => br_y rfl (k45 v (aG.ph vh (fun _ z => z)))) fun v vh vr l0 l1 => br_n (by decide) (j_isWholeFormed vh fun b w hb wh => br_i (fun _ => ?_) fun _ => k45 w (aG.ph wh (fun _ z => z)))
  have wG := aG.ph wh (fun _ z => z)
  have wr := wh.1
  have el := (wr.2.1.el ax).1
  have wx : x < w.1 29 := wr.up ax
  have w10 : w.1 10 = d := by rw [wr.s 10 (by decide), ha.s 10 (by decide), hd]
  have w11 : w.1 11 = h := by rw [wr.s 11 (by decide), ha.s 11 (by decide), hh]
  have w31 : w.1 31 = u.1 31 + 1 := by rw [wr.s 31 (by decide), a31]
  have wK : PKs w d (h + 1) := hK.ext (ha.2.1.tr wr.2.1) (fun k j _ _ _ _ => by unfold pf; rw [wr.a 53 (by decide), ha.a 53 (by decide)])
  have n0 : 0 ≤ eL w x - 28 ∧ eL w x - 28 ≤ 15 := by rw [el]; omega
  have hel : 28 ≤ eL w x ∧ eL w x ≤ 43 := by omega
  refine j_left wG.T (ov_i (by omega) (by omega) (rd_i fun _ => ?_))
  rw [w10]
  refine bd_i (by omega) (by omega) (rd_i fun _ => ov_i (by omega) (by omega) (sw_e fun s e => bd_i (by decide) (by decide) (sw_e fun t e2 => ?_)))
  have tr : RG [10, 12] [53] w t := by rw [e2, e]; exact ((RG.rf wG.T).I _ (by decide) (by decide) (by decide)).A _ _ (by decide) (by decide)
  have t10 : t.1 10 = d + 1 := by rw [e2, e]; rfl
  have t53 : ∀ i, t.2.1 53 i = if i = 4 * (d : Int) + 0 then x else w.2.1 53 i := fun i => by rw [e2, e]; rfl
  clear e e2
  have tG : GT E u0 t := wG.set tr (by omega)
  have tE : eL t x = eL w x := (tr.2.1.el wx).1
  -- the last three places
  have k117 : ∀ y : Int, -10 ≤ y → y ≤ 160000 → (0 < needN (eL w x) → needN (eL w x) ≤ y) → v_3_open_117 Q (eL w x - 28) d d 1 y t := by
    intro y y0 y1 hy
    have tf := tfirst (eL w x - 28).toNat (by omega)
    unfold v_3_open_117
    refine bd_i (by decide) (by decide) (sw_e fun p e => bd_i (by omega) (by omega) (rd_i fun _ => bd_i (by decide) (by decide) (sw_e fun q e2 => rd_i fun _ => bd_i (by decide) (by decide) (sw_e fun r e3 => ?_))))
    have q11 : q.1 11 = h := by
      have : q.1 11 = t.1 11 := by rw [e2, e]; rfl
      rw [this, tr.s 11 (by decide), w11]
    have rr : RG [10, 12] [53] t r := by rw [e3, e2, e]; exact (((RG.rf tG.T).A _ _ (by decide) (by decide)).A _ _ (by decide) (by decide)).A _ _ (by decide) (by decide)
    have p53 : ∀ i, p.2.1 53 i = if i = 4 * (d : Int) + 1 then y else t.2.1 53 i := fun i => by rw [e]; rfl
    have q53 : ∀ i, q.2.1 53 i = if i = 4 * (d : Int) + 2 then yT_FIRST_PARTS.getD (eL w x - 28).toNat 0 else p.2.1 53 i := fun i => by rw [e2]; rfl
    have r53 : ∀ i, r.2.1 53 i = if i = 4 * (d : Int) + 3 then h else q.2.1 53 i := fun i => by rw [e3, ← q11]; rfl
    have r1 : r.1 = t.1 := by rw [e3, e2, e]; rfl
    clear e e2 e3
    have r0 : pf r d 0 = x := by unfold pf; rw [r53, if_neg (by omega), q53, if_neg (by omega), p53, if_neg (by omega), t53, if_pos rfl]
    have r1' : pf r d 1 = y := by unfold pf; rw [r53, if_neg (by omega), q53, if_neg (by omega), p53, if_pos rfl]
    have r2 : pf r d 2 = yT_FIRST_PARTS.getD (eL w x - 28).toNat 0 := by unfold pf; rw [r53, if_neg (by omega), q53, if_pos rfl]
    have r3 : pf r d 3 = h := by unfold pf; rw [r53, if_pos rfl]
    have ro : ∀ k j : Int, 0 ≤ k → k < d → 0 ≤ j → j < 4 → pf r k j = pf w k j := fun k j k0 k1 j0 j1 => by unfold pf; rw [r53, if_neg (by omega), q53, if_neg (by omega), p53, if_neg (by omega), t53, if_neg (by omega)]
    have C : Ce w r := tr.2.1.tr rr.2.1
    have rE : eL r x = eL w x := (C.el wx).1
    refine hq r (tG.set rr (by rw [r1]; omega)) (Or.inr (Or.inr ⟨⟨h, r3, by omega, Int.le_refl _, ?_, ?_, ?_, ?_, wK.ext C ro⟩, by rw [r1]; exact t10, by rw [r1, tr.s 11 (by decide), w11], by rw [r1, tr.s 31 (by decide), w31], alt⟩))
    · rw [r0]; exact ⟨x0, by have := C.1; omega⟩
    · rw [r0, rE]; exact hel
    · rw [r1', r2]; omega
    · rw [r0, rE, r1']
      intro z
      have := hy z
      omega
  have e3 : yT_LENGTHS.getD (15 : Int).toNat 0 = 3 := by decide
  refine br_i (fun h15 => bd_i (by omega) (by omega) (rd_i fun _ => ?_)) fun h15 => ?_
  · have tp := tpart (eL w x - 28).toNat (by omega)
    rw [show (((eL w x - 28).toNat : Int)) + 28 = eL w x from by omega] at tp
    exact k117 _ (by omega) (by omega) (fun _ => tp.1)
  · have e15 : eL w x - 28 = 15 := Classical.not_not.mp h15
    have nn : needN (eL w x) = 0 := by rw [show eL w x = 43 from by omega]; decide
    have fin : ∀ n : Int, -1 ≤ n → n ≤ 160000 → bd (eL w x - 28) 16 (rd (yT_LENGTHS.getD (eL w x - 28).toNat 0) (fun v16 => ov (n - v16) (v_3_open_117 Q (eL w x - 28) d d 1 (n - v16) t))) := by
      intro n m0 m1
      refine bd_i (by omega) (by omega) (rd_i fun _ => ?_)
      have : yT_LENGTHS.getD (eL w x - 28).toNat 0 = 3 := by rw [e15]; exact e3
      rw [this]
      exact ov_i (by omega) (by omega) (k117 _ (by omega) (by omega) (fun z => by omega))
    exact j_lengthOf tG.T (fin _ (by decide) (by decide)) fun n hn _ => fin n (by omega) hn
theorem j_conclude {u0 u : iST} {d : Nat} {E : Int → Prop} {Q : iST → Prop} (hG : GT E u0 u) (hB : NB u) (hd : u.1 10 = d + 1) (hK : PKs u (d + 1) (u.1 11)) (hl : pf u d 1 ≤ 0) (hq : ∀ v, GT E u0 v → v.1 31 = u.1 31 → (v.1 12 ≠ -1 ∨ v.1 32 ≠ 0 ∨ (PKs v d (v.1 11) ∧ v.1 10 = d)) → Q v) : v_3_conclude d Q u := by
  obtain ⟨b, k1, k2, k3, k4, k5, k6, k7, k8⟩ := hK
  have h11 := hG.2.2.2.2.2.2.1
  have h10 := hG.2.2.2.2.2.2.2.1
  have e0 : u.2.1 53 (4 * (d : Int) + 0) = pf u d 0 := rfl
  have e3 : u.2.1 53 (4 * (d : Int) + 3) = b := k1
  unfold v_3_conclude
  refine bd_i (by decide) (by decide) (rd_i fun _ => bd_i (by decide) (by decide) (rd_i fun _ => rd_i fun _ => ?_))
  rw [e0, e3]
  refine br_i (fun hlt => rd_i fun _ => bd_i h11.1 hlt (rc_i fun hc => j_clear hG.T hG.2.2.2.1 fun a ha aC _ => ?_)) fun _ => j_blame hG.T (by decide) fun v hv v32 => hq v (hG.rm hv) (hv.s 31 (by decide)) (Or.inr (Or.inl v32))
  generalize hcc : u.2.1 57 (u.1 11) = c at *
  have aP : PH (fun x => HG E u x ∨ x = c) u a := hG.toPH.cl ha aC
  have aE : eL a (pf u d 0) = eL u (pf u d 0) := (ha.2.1.el k4.2).1
  have k116 : ∀ v y, PH (fun x => HG E u x ∨ x = c) u v → v_3_conclude_116 Q b c y v := by
    intro v y vP
    have vr := vP.1
    have v11 : v.1 11 = u.1 11 := vr.s 11 (by decide)
    unfold v_3_conclude_116
    refine sw_e fun w e => rd_i fun _ => ?_
    have w1 : ∀ k, k ≠ 12 → w.1 k = v.1 k := fun k hk => by rw [e]; exact if_neg hk
    have w2 : w.2 = v.2 := by rw [e]; rfl
    have wr : RG [10, 11, 12] [57] v w := by rw [e]; exact (RG.rf vP.T).I _ (by decide) (by decide) (by decide)
    clear e
    rw [w1 11 (by decide), v11]
    refine bd_i k2 (by omega) (rc_i fun _ => bd_i h11.1 hlt (sw_e fun s e => bd_i k2 (by omega) (sw_e fun t e2 => ov_i (by omega) (by omega) (sw_e fun p e3 => rd_i fun _ => ?_))))
    have p10 : p.1 10 = d + 1 := by
      have : p.1 10 = w.1 10 := by rw [e3, e2, e]; rfl
      rw [this, w1 10 (by decide), vr.s 10 (by decide), hd]
    rw [p10, show (d : Int) + 1 - 1 = d from by omega]
    refine ov_i (by omega) (by omega) (sw_e fun q e4 => ?_)
    have qr : RG [10, 11, 12] [57] v q := by
      rw [e4, e3, e2, e]
      exact (((wr.A _ _ (by decide) (by decide)).A _ _ (by decide) (by decide)).I _ (by decide) (by decide) (by decide)).I _ (by decide) (by decide) (by decide)
    have q10 : q.1 10 = d := by rw [e4]; rfl
    have q11 : q.1 11 = b + 1 := by rw [e4, e3]; rfl
    have s57 : ∀ i, s.2.1 57 i = if i = u.1 11 then v.2.1 57 b else v.2.1 57 i := fun i => by rw [e, ← w2]; rfl
    have q57 : ∀ i, q.2.1 57 i = if i = b then c else s.2.1 57 i := fun i => by rw [e4, e3, e2]; rfl
    clear e e2 e3 e4
    have v57 : v.2.1 57 = u.2.1 57 := vr.a 57 (by decide)
    have C : Ce u q := vr.2.1.tr qr.2.1
    obtain ⟨g1, g2, g3, g4, g5, g6, g7, g8, g9⟩ := hG
    refine hq q ⟨(g1.tr (vr.w (by decide) (by decide))).tr (qr.w (by decide) (by decide)), by rw [qr.s 13 (by decide), vP.2.1]; exact g2, vP.W.k qr (by decide) (by decide) (by decide) (by decide), ?_, by rw [qr.s 33 (by decide)]; exact vP.2.2.2.2.1, by rw [qr.s 13 (by decide)]; exact vP.2.2.2.2.2, by omega, by omega, by rw [qr.s 31 (by decide), qr.s 30 (by decide), vr.s 31 (by decide), vr.s 30 (by decide)]; exact g9⟩ (by rw [qr.s 31 (by decide), vr.s 31 (by decide)]) (Or.inr (Or.inr ⟨?_, q10⟩))
    · refine CV.rg (vP.C.less (fun z hz => ?_)) qr (by decide) (by decide)
      rcases hz with hz | ⟨i, i0, i1, i2⟩
      · exact Or.inl (Or.inl hz)
      · rw [q57] at i2
        by_cases ei : i = b
        · rw [if_pos ei] at i2; exact Or.inr i2.symm
        · rw [if_neg ei, s57, if_neg (by omega), v57] at i2
          exact Or.inl (Or.inr ⟨i, i0, by omega, i2⟩)
    · rw [q11]
      exact k8.ext C (fun k j _ _ _ _ => by unfold pf; rw [qr.a 53 (by decide), vr.a 53 (by decide)])
  have k105 : ∀ v y, PH (fun x => HG E u x ∨ x = c) u v → v_3_conclude_105 Q (pf u d 0) b c y v := by
    intro v y vP
    unfold v_3_conclude_105
    exact br_i (fun _ => k116 v _ vP) fun _ => k116 v _ vP
  refine j_left aP.T ?_
  rw [aE]
  refine br_i (fun h38 => j_left aP.T ?_) fun _ => j_concludeAlone aP hB hc.1 hc.2 fun v vP => k105 v 1 vP
  rw [aE]
  refine br_i (fun h43 => j_concludeOfParts aP hc.1 hc.2 k2 ?_ (by rw [aE]; omega) (fun i i0 i1 => ?_) fun r v hr vP => k105 v r vP) fun _ => j_isInduced aP hc.1 hc.2 k2 h11.2 fun r v hr vP => k105 v r vP
  · have : 1 ≤ needN (eL u (pf u d 0)) := by
      unfold needN
      split
      · decide
      · split
        · decide
        · omega
    have := k7 (by omega)
    omega
  · rw [aE] at i1
    have := k7 (by omega)
    exact Or.inl (Or.inr ⟨i, by omega, by omega, rfl⟩)
theorem j_goThrough {u : iST} {x : Int} {E : Int → Prop} {Q : iST → Prop} (hW : WK u) (hB : NB u) (hC : CV E u) (h33 : 0 ≤ u.1 33 ∧ u.1 33 ≤ 64) (h13 : 0 ≤ u.1 13 ∧ u.1 13 ≤ 120) (h31 : 0 ≤ u.1 31 ∧ u.1 31 ≤ u.1 30) (h30 : u.1 30 ≤ 1000) (x0 : 0 ≤ x) (x1 : x < u.1 29) (hq : ∀ v, RG gtS gtR u v → v.1 13 = u.1 13 → WK v → CV E v → (0 ≤ v.1 33 ∧ v.1 33 ≤ 64) → (v.1 12 = -1 → v.1 32 = 0 → CV (fun c => E c ∨ c = v.2.1 57 0) v) → (0 ≤ v.1 31 ∧ v.1 31 ≤ v.1 30) → Q v) : v_3_goThrough x Q u := by
  have hT := hW.1
  unfold v_3_goThrough
  refine sw_e fun a e => sw_e fun b e2 => sw_e fun c e3 => ?_
  have cr : RG [10, 11, 12] [] u c := by rw [e3, e2, e]; exact (((RG.rf hT).I _ (by decide) (by decide) (by decide)).I _ (by decide) (by decide) (by decide)).I _ (by decide) (by decide) (by decide)
  have c10 : c.1 10 = 0 := by rw [e3, e2, e]; rfl
  have c11 : c.1 11 = 0 := by rw [e3, e2]; rfl
  clear e e2 e3
  have cG : GT E u c := ⟨cr.w (by decide) (by decide), cr.s 13 (by decide), hW.k cr (by decide) (by decide) (by decide) (by decide), CV.rg (hC.less (fun z hz => by
    rcases hz with hz | ⟨i, i0, i1, _⟩
    · exact hz
    · omega)) cr (by decide) (by decide), by rw [cr.s 33 (by decide)]; exact h33, by rw [cr.s 13 (by decide)]; exact h13, by omega, by omega, by rw [cr.s 31 (by decide), cr.s 30 (by decide)]; exact h31⟩
  have out : ∀ v, GT E u v → (v.1 12 = -1 → v.1 32 = 0 → 1 ≤ v.1 11) → Q v := by
    intro v vG hv
    obtain ⟨g1, g2, g3, g4, g5, g6, g7, g8, g9⟩ := vG
    refine hq v g1 g2 g3 (g4.less (fun _ z => Or.inl z)) g5 (fun z1 z2 => g4.less (fun y hy => ?_)) g9
    rcases hy with hy | hy
    · exact Or.inl hy
    · exact Or.inr ⟨0, Int.le_refl _, hv z1 z2, hy.symm⟩
  refine j_open (d := 0) (h := 0) cG c10 c11 x0 (cr.up x1) (show (1 : Int) ≤ 0 + 1 by decide) fun v vG hv => ?_
  unfold v_3_goThrough_22
  refine lf1 (B := fun R x2 u => v_3_goThrough_22b R Q x2 u) (fun x2 w => 0 ≤ x2 ∧ GT E u w ∧ (w.1 12 ≠ -1 ∨ w.1 32 ≠ 0 ∨ (PKs w (w.1 10).toNat (w.1 11) ∧ x2 + 2 * (w.1 30 - w.1 31) + w.1 10 ≤ 2001))) (fun x2 _ => (1000000 - x2).toNat) ?_ ⟨Int.le_refl _, vG, ?_⟩
  · intro x2 w hI R ih
    obtain ⟨h2, wG, hw⟩ := hI
    have w10 := wG.2.2.2.2.2.2.2.1
    have w31 := wG.2.2.2.2.2.2.2.2
    have fin : (1000000 ≤ x2 ∨ w.1 10 ≤ 0 ∨ w.1 12 ≠ -1 ∨ w.1 32 ≠ 0) → Q w := by
      intro hc
      refine out w wG (fun z1 z2 => ?_)
      rcases hw with hw | hw | ⟨hw, hp⟩
      · exact absurd z1 hw
      · exact absurd z2 hw
      · have d0 : w.1 10 = 0 := by
          rcases hc with hc | hc | hc | hc
          · omega
          · omega
          · exact absurd z1 hc
          · exact absurd z2 hc
        rw [d0] at hw
        exact hw
    unfold v_3_goThrough_22b
    refine br_i (fun h => fin (Or.inl h)) fun hlt => rd_i fun _ => br_i (fun h => fin (Or.inr (Or.inl h))) fun h10 => rd_i fun _ => br_i (fun h => fin (Or.inr (Or.inr (Or.inl h)))) fun h12 => rd_i fun _ => br_i (fun h => fin (Or.inr (Or.inr (Or.inr h)))) fun h32 => rd_i fun _ => ?_
    obtain ⟨hK, hP⟩ := (hw.resolve_left h12).resolve_left h32
    obtain ⟨d, hd⟩ : ∃ d : Nat, w.1 10 = d + 1 := ⟨(w.1 10 - 1).toNat, by omega⟩
    rw [hd, show ((d : Int) + 1).toNat = d + 1 from by omega] at hK
    rw [hd, show (d : Int) + 1 - 1 = d from by omega]
    have nx : ∀ z, GT E u z → (z.1 12 ≠ -1 ∨ z.1 32 ≠ 0 ∨ (PKs z (z.1 10).toNat (z.1 11) ∧ x2 + 1 + 2 * (z.1 30 - z.1 31) + z.1 10 ≤ 2001)) → ov (x2 + 1) (R (x2 + 1) z) := fun z zG hz => ov_i (by omega) (by omega) (ih _ _ ⟨by omega, zG, hz⟩ (by omega))
    have e30 : ∀ z, GT E u z → z.1 30 = w.1 30 := fun z zG => by rw [zG.1.s 30 (by decide), wG.1.s 30 (by decide)]
    obtain ⟨b, k1, k2, k3, k4, k5, k6, k7, k8⟩ := hK
    have hK : PKs w (d + 1) (w.1 11) := ⟨b, k1, k2, k3, k4, k5, k6, k7, k8⟩
    have f1 : w.2.1 53 (4 * (d : Int) + 1) = pf w d 1 := rfl
    have f2 : w.2.1 53 (4 * (d : Int) + 2) = pf w d 2 := rfl
    have hBw : NB w := hB.rg wG.1 (by decide) (by decide) (by decide)
    refine ov_i (by omega) (by omega) (bd_i (by omega) (by omega) (bd_i (by decide) (by decide) (rd_i fun _ => ?_)))
    rw [f1, f2]
    refine br_i (fun hl => j_conclude wG hBw hd hK hl fun z zG z31 hz => nx z zG (hz.imp id (fun hz => hz.imp id (fun ⟨p, q⟩ => ⟨by rw [q]; exact p, by rw [e30 z zG, z31, q]; omega⟩)))) fun hl => bd_i (by decide) (by decide) (rd_i fun _ => bd_i (by decide) (by decide) (rd_i fun _ => j_item wG.T (by omega) fun y y0 y1 => bd_i (by decide) (by decide) (rd_i fun _ => ov_i (by omega) (by omega) (bd_i (by decide) (by decide) (sw_e fun s e => bd_i (by decide) (by decide) (rd_i fun _ => ?_))))))
    have s53 : ∀ i, s.2.1 53 i = if i = 4 * (d : Int) + 1 then pf w d 1 - 1 else w.2.1 53 i := fun i => by rw [e]; rfl
    have sr : RG [10, 12] [53] w s := by rw [e]; exact (RG.rf wG.T).A _ _ (by decide) (by decide)
    have s1 : s.1 = w.1 := by rw [e]; rfl
    clear e
    have s2 : s.2.1 53 (4 * (d : Int) + 2) = pf w d 2 := by rw [s53, if_neg (by omega)]; rfl
    rw [s2]
    refine ov_i (by omega) (by omega) (bd_i (by decide) (by decide) (sw_e fun t e => ?_))
    have t53 : ∀ i, t.2.1 53 i = if i = 4 * (d : Int) + 2 then pf w d 2 + 1 else s.2.1 53 i := fun i => by rw [e]; rfl
    have tr : RG [10, 12] [53] w t := by rw [e]; exact sr.A _ _ (by decide) (by decide)
    have t1 : t.1 = w.1 := by rw [e, ← s1]; rfl
    clear e
    have tG : GT E u t := wG.set tr (by rw [t1]; exact w10)
    have p0 : pf t d 0 = pf w d 0 := by unfold pf; rw [t53, if_neg (by omega), s53, if_neg (by omega)]
    have p1 : pf t d 1 = pf w d 1 - 1 := by unfold pf; rw [t53, if_neg (by omega), s53, if_pos rfl]; rfl
    have p2 : pf t d 2 = pf w d 2 + 1 := by unfold pf; rw [t53, if_pos rfl]; rfl
    have p3 : pf t d 3 = pf w d 3 := by unfold pf; rw [t53, if_neg (by omega), s53, if_neg (by omega)]
    have po : ∀ k j : Int, 0 ≤ k → k < d → 0 ≤ j → j < 4 → pf t k j = pf w k j := fun k j k0 k1 j0 j1 => by unfold pf; rw [t53, if_neg (by omega), s53, if_neg (by omega)]
    have tE : eL t (pf w d 0) = eL w (pf w d 0) := (tr.2.1.el k4.2).1
    refine j_open (d := d + 1) (h := w.1 11) tG (by rw [t1, hd]; omega) (by rw [t1]) y0 (tr.up y1) ⟨b, by rw [p3]; exact k1, k2, by omega, by rw [p0, t1]; exact k4, by rw [p0, tE]; exact k5, by rw [p1, p2]; omega, by rw [p0, tE, p1]; intro z; have := k7 z; omega, k8.ext tr.2.1 po⟩ fun z zG hz => nx z zG (hz.imp id (fun hz => hz.imp id (fun ⟨q1, q2, q3, q4, q5⟩ => ⟨?_, ?_⟩)))
    · rw [q2, q3, show (((d + 1 : Nat) : Int) + 1).toNat = d + 1 + 1 from by omega]
      exact q1
    · rw [e30 z zG, q4, q2, t1]
      omega
  · refine hv.imp id (fun hv => hv.imp id (fun ⟨q1, q2, q3, q4, q5⟩ => ⟨?_, ?_⟩))
    · rw [q2, q3]
      exact q1
    · have e30 : v.1 30 = u.1 30 := vG.1.s 30 (by decide)
      have c31 : c.1 31 = u.1 31 := cr.s 31 (by decide)
      rw [e30, q4, q2, c31]
      omega
