/-! the machine of a PROOF goes on -/
theorem sumT_shift {u v : iST} (h : ExtT u v) {r s : Int → Int} : ∀ {n : Nat}, (∀ i : Nat, i < n → IsT u (s i) ∧ r i = s i) → sumT v r n = sumT u s n
  | 0, _ => rfl
  | n + 1, hi => by
    show sumT v r n + sz v (r n) = sumT u s n + sz u (s n)
    rw [sumT_shift h (fun i hn => hi i (by omega)), (hi n (by omega)).2, h.szx (hi n (by omega)).1]
theorem g_goProof {w v : iST} {W m : Int} {Q : iST → Prop} (hw : WI w) (hC : Core w) (h : MI w v W m) (hD : 0 < v.1 144) (W1 : W ≤ 1000) (h8 : w.1 8 + 400 * W ≤ 449100) (w6 : w.1 6 ≤ 11000) (hq : ∀ y, ((∃ m', MI w y W m' ∧ m' < m) ∨ Bad w y) → Q y) : w_goProof Q v := by
  obtain ⟨hB, h61, h148, D, b, rm, po, eD, D40, e147, hS, hcz, h3, hp, h6, rfl⟩ := h
  obtain ⟨k, rfl⟩ : ∃ k, D = k + 1 := ⟨D - 1, by omega⟩
  have hT := hw.1.1
  have vW := hB.wi hw hC
  have vT := hB.1.1
  have vm := vT.2.1
  have w60 := hw.2.2.2.2.2.1
  have w59 := hw.2.2.2.2.2.2.2
  have v59 := fx_s hB.1.2.2.2.2.2 59 rfl
  have v60 := hB.2.2.1
  have v60b := hB.2.2.2
  obtain ⟨n, j, b', rm', po', a1, a2, a3, a4, a5, a6, a7, a8, a9, a10, a11⟩ := hS
  have nn := a1.nn vT
  have pn := PO.nn vT a2 a5 a6
  have hr := a2.r
  have hpt := a2.parts
  unfold w_goProof
  refine rd_i fun _ => ?_
  rw [eD, show ((k + 1 : Nat) : Int) - 1 = (k : Int) from by omega]
  refine ov_i (by omega) (by omega) (bd_i (by omega) (by omega) (rd_i fun _ => bd_i (by omega) (by omega) (rd_i fun _ => s_partsTo vT a2 (br_i (fun hle => ?_) fun hlt => ?_))))
  · -- concludes
    have ej : pTo (v.2.1 0 (v.2.1 141 k)) n = j := by omega
    have cc := PO.cc (u := v) (o := v.2.1 141 k) (n := n)
    rw [ej] at cc
    refine g_concludes vW.1 vW.2 hB.2.1 (by omega) (by omega) a2 a3 (by omega) (by omega) (fun p q0 q1 => by rw [a8]; exact hcz _ (by omega) (by omega)) (by omega) (by omega) fun bb y hb hy => ?_
    have ky : Kp v y := hy.1.2.1.kp
    have kwy : Kp w y := hB.1.tr hT ky
    have yT := ky.1
    have yF := hy.1.fx
    have y8 := ky.2.1.1.1.1
    have y8b := hy.1.e8
    have y6b := hy.1.e6
    have y60 := hy.1.2.2.2
    have y59 := fx_s yF 59 rfl
    refine rd_i fun _ => br_i (fun y61 => br_i (fun _ => ?_) fun _ => sw_i ?_) fun y61 => hq y (Or.inr ⟨kwy, Or.inl y61⟩)
    · refine g_bounded yT hy.2.1 (by have := hy.2.2; omega) (fun h30 hsum => ?_) fun z hz hz61 => rd_i fun _ => br_n hz61 (hq z (Or.inr ⟨?_, Or.inl hz61⟩))
      · obtain ⟨d0, d1⟩ := hy.2.1
        have y144 : y.1 144 = (k + 1 : Nat) := by rw [fx_s yF 144 rfl]; exact eD
        have y148 : y.1 148 = -1 := by rw [fx_s yF 148 rfl]; exact h148
        have y143 : y.2.1 143 k = b' - 1 := by rw [fx_a yF 143 rfl]; exact a8
        refine rd_i fun _ => br_y y61 (rd_i fun _ => ?_)
        rw [y144, show ((k + 1 : Nat) : Int) - 1 = (k : Int) from by omega]
        refine ov_i (by omega) (by omega) (sw_i (bd_i (by omega) (by omega) (rd_i fun _ => ?_)))
        show sw (iI (iI y 144 k) 147 (y.2.1 143 k)) _
        rw [y143]
        refine sw_i ?_
        have s1 : ∀ g, g ≠ 144 → g ≠ 147 → (iI (iI y 144 k) 147 (b' - 1)).1 g = y.1 g := fun g h1 h2 => (if_neg h2).trans (if_neg h1)
        have s2 : (iI (iI y 144 k) 147 (b' - 1)).2 = y.2 := rfl
        have s144 : (iI (iI y 144 k) 147 (b' - 1)).1 144 = k := rfl
        have s147 : (iI (iI y 144 k) 147 (b' - 1)).1 147 = b' - 1 := rfl
        generalize iI (iI y 144 k) 147 (b' - 1) = s at *
        have s122 := s1 122 (by decide) (by decide)
        unfold w_goProof_115
        refine lf1 (B := fun R y1 u => w_goProof_115b R Q y1 u) (fun y1 t => ∃ i : Nat, y1 = i ∧ (i : Int) ≤ y.1 122 ∧ t.1 = s.1 ∧ t.2.2 = s.2.2 ∧ (∀ g, g ≠ 145 → t.2.1 g = s.2.1 g) ∧ ∀ q, t.2.1 145 q = if 30 * (b' - 1) ≤ q ∧ q < 30 * (b' - 1) + i then s.2.1 121 (q - 30 * (b' - 1)) else s.2.1 145 q) (fun y1 _ => (y.1 122 - y1).toNat) ?_ ⟨0, rfl, d0, rfl, rfl, fun _ _ => rfl, fun q => by rw [if_neg (by omega)]⟩
        intro y1 t hI R ih
        obtain ⟨i, rfl, i1, t1, t2, t3, t4⟩ := hI
        unfold w_goProof_115b
        refine rd_i fun _ => ?_
        rw [t1, s122]
        refine br_i (fun hge => rd_i fun _ => rd_i fun _ => ?_) fun hlt => rd_i fun _ => ?_
        · have ei : (i : Int) = y.1 122 := by omega
          rw [s147]
          refine bd_i (by omega) (by omega) (sw_i (rd_i fun _ => ?_))
          show ov (t.1 147 + 1) (sw (iI (iA t 146 (b' - 1) (y.1 122)) 147 (t.1 147 + 1)) _)
          rw [t1, s147]
          refine ov_i (by omega) (by omega) (sw_i (hq _ (Or.inl ⟨2 * rm' + k, ?_, ?_⟩)))
          · have f1 : ∀ g, g ≠ 144 → g ≠ 147 → (iI (iA t 146 (b' - 1) (y.1 122)) 147 (b' - 1 + 1)).1 g = y.1 g := fun g h1 h2 => by
              show (if g = 147 then _ else t.1 g) = _
              rw [if_neg h2, t1]; exact s1 g h1 h2
            have f144 : (iI (iA t 146 (b' - 1) (y.1 122)) 147 (b' - 1 + 1)).1 144 = k := by
              show t.1 144 = _
              rw [t1]; exact s144
            have f147 : (iI (iA t 146 (b' - 1) (y.1 122)) 147 (b' - 1 + 1)).1 147 = b' - 1 + 1 := rfl
            have f2 : ∀ g, g ≠ 145 → g ≠ 146 → (iI (iA t 146 (b' - 1) (y.1 122)) 147 (b' - 1 + 1)).2.1 g = y.2.1 g := fun g h1 h2 => by
              show (if g = 146 then _ else t.2.1 g) = _
              rw [if_neg h2, t3 g h1, s2]
            have f46 : ∀ c, (iI (iA t 146 (b' - 1) (y.1 122)) 147 (b' - 1 + 1)).2.1 146 c = if c = b' - 1 then y.1 122 else y.2.1 146 c := fun c => by
              show (if c = b' - 1 then _ else t.2.1 146 c) = _
              rw [t3 146 (by decide), s2]
            have f45 : ∀ q, (iI (iA t 146 (b' - 1) (y.1 122)) 147 (b' - 1 + 1)).2.1 145 q = if 30 * (b' - 1) ≤ q ∧ q < 30 * (b' - 1) + i then y.2.1 121 (q - 30 * (b' - 1)) else y.2.1 145 q := fun q => by
              show t.2.1 145 q = _
              rw [t4, s2]
            have fL : (iI (iA t 146 (b' - 1) (y.1 122)) 147 (b' - 1 + 1)).2.2 = y.2.2 := by
              show t.2.2 = _
              rw [t2, s2]
            generalize iI (iA t 146 (b' - 1) (y.1 122)) 147 (b' - 1 + 1) = f at *
            have fF : Fx fWp y f := fun g hg => ⟨f1 g (fun e => by subst e; cases hg) (fun e => by subst e; cases hg), f2 g (fun e => by subst e; cases hg) (fun e => by subst e; cases hg)⟩
            obtain ⟨kf, kyf⟩ := kwy.wr hT fF fL
            have kvf := ky.tr vT kyf
            have fz := f1 60 (by decide) (by decide)
            have fm := f1 59 (by decide) (by decide)
            refine ⟨⟨kf, by rw [f1 117 (by decide) (by decide)]; exact hy.1.2.2.1, by omega, by omega⟩, by rw [f1 61 (by decide) (by decide)]; exact y61, by rw [f1 148 (by decide) (by decide)]; exact y148, k, b', rm', po', f144, by omega, by omega, a1.ext vT vW.2 kvf (fun i hi => ?_), fun c c0 c1 => ?_, by omega, by rw [f1 8 (by decide) (by decide)]; omega, by rw [f1 6 (by decide) (by decide), fz]; omega, rfl⟩
            · rw [f2 141 (by decide) (by decide), f2 142 (by decide) (by decide), f2 143 (by decide) (by decide), fx_a yF 141 rfl, fx_a yF 142 rfl, fx_a yF 143 rfl]
              exact ⟨rfl, rfl, rfl⟩
            · by_cases ec : c = b' - 1
              · subst ec
                have e6 : f.2.1 146 (b' - 1) = y.1 122 := by rw [f46, if_pos rfl]
                have e5 : ∀ q, 0 ≤ q → q < y.1 122 → f.2.1 145 (30 * (b' - 1) + q) = y.2.1 121 q := fun q q0 q1 => by
                  rw [f45, if_pos (by omega), show 30 * (b' - 1) + q - 30 * (b' - 1) = q from by omega]
                unfold Cz
                rw [e6]
                refine ⟨d0, h30, fun q q0 q1 => ?_, ?_⟩
                · rw [e5 q q0 q1]
                  have dq := d1 q q0 q1
                  exact (show TJ y (y.2.1 121 q) from ⟨dq.1, dq.2 y61⟩).ext yT kyf.2.1
                · rw [sumT_shift kyf.2.1 (s := y.2.1 121) (fun q hq => ⟨(d1 q (by omega) (by omega)).1, e5 q (by omega) (by omega)⟩)]
                  exact hsum
              · refine (hcz c c0 (by omega)).ext vT kvf.2.1 ?_ (fun q q0 q1 => ?_)
                · rw [f46, if_neg ec, fx_a yF 146 rfl]
                · rw [f45, if_neg (by omega), fx_a yF 145 rfl]
          · omega
        · rw [s147]
          refine ov_i (by omega) (by omega) (ov_i (by omega) (by omega) (bd_i (by omega) (by omega) (rd_i fun _ => bd_i (by omega) (by omega) (sw_i (ov_i (by omega) (by omega) (ih _ _ ⟨i + 1, by omega, by omega, t1, t2, fun g hg => ?_, fun q => ?_⟩ (by omega)))))))
          · show (if g = 145 then _ else t.2.1 g) = _
            rw [if_neg hg]; exact t3 g hg
          · show (if q = 30 * (b' - 1) + i then t.2.1 121 i else t.2.1 145 q) = _
            by_cases e : q = 30 * (b' - 1) + i
            · rw [if_pos e, if_pos (by omega), t3 121 (by decide), show q - 30 * (b' - 1) = i from by omega]
            · rw [if_neg e, t4]
              by_cases e2 : 30 * (b' - 1) ≤ q ∧ q < 30 * (b' - 1) + i
              · rw [if_pos e2, if_pos (by omega)]
              · rw [if_neg e2, if_neg (by omega)]
      · rcases hz with rfl | rfl
        · exact kwy
        · exact kwy.num61 hT 4
    · obtain ⟨kz, kyz⟩ := kwy.wr hT (Fx_I (k := 148) rfl : Fx fWp y (iI y 148 (v.2.1 141 k))) rfl
      exact hq _ (Or.inr ⟨kz, Or.inr ⟨hr.1, show v.2.1 141 k < y.1 8 by omega⟩⟩)
  · -- the next part
    have hj : j < pTo (v.2.1 0 (v.2.1 141 k)) n := by omega
    have re := IsL.elr vT a2.2.1 j (by omega)
    have we := w_pos vT re.1 re.2
    have ep := rmW_part vT a2.2.1 (show j < n by omega)
    have ln := len_wB vT a2.2.1
    have wo := w_pos vT hr.1 hr.2.1
    refine bd_i (by omega) (by omega) (rd_i fun _ => ?_)
    rw [a4]
    refine ov_i (by omega) (by omega) (bd_i (by omega) (by omega) (sw_i (bd_i (by omega) (by omega) (rd_i fun _ => ?_))))
    have aF : Fx fWp v (iA v 142 k (j + 1)) := Fx_A (k := 142) rfl
    obtain ⟨ka, kva⟩ := hB.1.wr hT aF rfl
    have g1 : (iA v 142 k ((j : Int) + 1)).1 = v.1 := rfl
    have g2 : ∀ g, g ≠ 142 → (iA v 142 k ((j : Int) + 1)).2.1 g = v.2.1 g := fun g hg => if_neg hg
    have g42 : ∀ i, (iA v 142 k ((j : Int) + 1)).2.1 142 i = if i = (k : Int) then (j : Int) + 1 else v.2.1 142 i := fun i => rfl
    generalize iA v 142 k ((j : Int) + 1) = a at *
    have aT := ka.1
    rw [g42, if_pos rfl]
    refine ov_i (by omega) (by omega) ?_
    rw [show (j : Int) + 1 - 1 = j from by omega]
    refine s_nth aT hr.1 (by rw [g1]; exact hr.2.1) (by omega) (by have := len_wB vT a2.2.1; have := w_pos vT hr.1 hr.2.1; omega) ?_
    rw [show ((j : Int)).toNat = j from by omega, el_ext kva.2.1.1 a2.2.1 j (by omega)]
    have ew : wA a (el v (v.2.1 141 k) j) = wA v (el v (v.2.1 141 k) j) := (w_ext vT aT kva.2.1.1 re.1 re.2).1
    have aB : BS w a := ⟨ka, by rw [g1]; exact hB.2.1, by rw [g1]; exact v60, by rw [g1]; exact v60b⟩
    have e0 := (kva.2.1.1.2.1 _ hr.1 hr.2.1).1
    have ePO : PO v (v.2.1 141 k) (j + 1) n = PO v (v.2.1 141 k) j n - 400 * wA v (el v (v.2.1 141 k) j) + 279 := by
      unfold PO
      rw [ep]
      omega
    have aS : SkP a (k + 1) (b + 1) (rm - wA v (el v (v.2.1 141 k) j)) (po - 400 * wA v (el v (v.2.1 141 k) j) + 279) := by
      refine ⟨n, j + 1, b', rm', po', a1.ext vT vW.2 kva (fun i hi => ?_), ?_⟩
      · rw [g2 141 (by decide), g42, if_neg (by omega), g2 143 (by decide)]
        exact ⟨rfl, rfl, rfl⟩
      · rw [g2 141 (by decide), g2 143 (by decide), g42, if_pos rfl, e0, rmW_ext vT aT kva.2.1.1 a2 _ (by omega), PO.ext vT aT kva.2.1.1 a2 (by omega), (w_ext vT aT kva.2.1.1 hr.1 hr.2.1).1]
        exact ⟨kva.form vT vW.2 a2, a3, by omega, by omega, by omega, a7, a8, by omega, by omega, by rw [ePO]; omega⟩
    refine g_beginProof hw hC aB (by rw [g1]; exact h61) (by rw [g1]; exact h148) (by rw [g1]; exact eD) D40 (by rw [g1]; omega) (by omega) aS (fun c c0 c1 => (hcz c c0 (by omega)).ext vT kva.2.1 (by rw [g2 146 (by decide)]) (fun i _ _ => by rw [g2 145 (by decide)])) re.1 (by rw [g1]; exact re.2) (by rw [ew]; omega) W1 (by rw [g1, ew]; omega) h8 (by rw [g1]; exact h6) w6 fun y hy => hq y (hy.imp (fun ⟨m', h1, h2⟩ => ⟨m', h1, by rw [ew] at h2; omega⟩) id)
