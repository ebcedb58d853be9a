/-! beginEval, takeValue, goOn, evaluated -/
theorem E0.tab {u w : iST} {c : Int} (h : E0 u w c) : TI w := h.1
/-- a change of the rows of evaluation alone -/
theorem ext_E {w v : iST} (hs : ∀ k, k ≤ 11 → v.1 k = w.1 k ∧ v.2.1 k = w.2.1 k) (hL : v.2.2 = w.2.2) (hF : Fx fE w v) : ExtT w v := ExtT.same hs hL (SameF.E hF)
theorem g_beginEval {u w : iST} {o d base lim : Int} {k : Nat} {V q c : Int} {Q : iST → Prop} (hu : TI u) (h85 : w.1 85 = k) (hk : k ≤ 300) (h87 : w.1 87 = V) (h89 : w.1 89 = 0) (hE : E0 u w c) (hc : 0 ≤ c) (hD : DI w) (hx : Ctx w d base V o) (hv : Ev w k V q c) (hf : w.1 59 ≤ 1000) (hst : 0 ≤ w.1 60) (hq : ∀ (N : Nat) v, EI u N v → Fx fE w v → (N : Int) ≤ 20 * (w.1 59 - w.1 60) + q + 1 → Q v) : w_beginEval o d base lim Q w := by
  have hE' := hE
  obtain ⟨e1, e2, e3, e4, e5, e6, e7, e8, e9, e10, e11⟩ := hE'
  have h8 := e1.2.1
  have ht := hx.it
  have hr := ht.r
  have hvr := hv.r
  -- states that differ in the numbers of evaluation alone
  have fr : ∀ v : iST, v.2 = w.2 → (∀ k, k ≠ 89 → k ≠ 90 → k ≠ 91 → v.1 k = w.1 k) → (∀ k, k ≤ 11 → v.1 k = w.1 k ∧ v.2.1 k = w.2.1 k) ∧ Fx fE w v ∧ ExtT w v ∧ E0 u v c ∧ Ev v k V q c := by
    intro v v2 v1
    have vt : ∀ k, k ≤ 11 → v.1 k = w.1 k ∧ v.2.1 k = w.2.1 k := fun k hk => ⟨v1 k (by omega) (by omega) (by omega), by rw [v2]⟩
    have vF : Fx fE w v := fun k hk => by
      have hk2 : k ≠ 89 ∧ k ≠ 90 ∧ k ≠ 91 := by simp [fE] at hk; omega
      exact ⟨v1 k hk2.1 hk2.2.1 hk2.2.2, by rw [v2]⟩
    have vE : ExtT w v := ext_E vt (by rw [v2]) vF
    have vT : TI v := TI_eq e1 vt (by rw [v2])
    refine ⟨vt, vF, vE, ⟨vT, e2.tr hu vE, e3.tr vF, ?_⟩, hv.ext e1 vT vE vF (fun i _ => by rw [v2]; exact ⟨rfl, rfl, rfl, rfl, rfl, rfl⟩)⟩
    rw [v1 60 (by decide) (by decide) (by decide), v1 59 (by decide) (by decide) (by decide), v1 8 (by decide) (by decide) (by decide), v1 6 (by decide) (by decide) (by decide), v1 11 (by decide) (by decide) (by decide), v1 88 (by decide) (by decide) (by decide), v1 87 (by decide) (by decide) (by decide), v2]
    exact ⟨e4, e5, e6, e7, e8, e9, e10, e11⟩
  have done : ∀ v : iST, v.2 = w.2 → (∀ k, k ≠ 89 → k ≠ 90 → k ≠ 91 → v.1 k = w.1 k) → v.1 89 = 0 → v.1 90 ≠ 0 → 0 ≤ v.1 91 → v.1 91 < w.1 8 → Q v := by
    intro v v2 v1 v89 v90 v91 v91b
    obtain ⟨a1, a2, a3, a4, a5⟩ := fr v v2 v1
    have e59 : v.1 59 = w.1 59 := v1 59 (by decide) (by decide) (by decide)
    have e60 : v.1 60 = w.1 60 := v1 60 (by decide) (by decide) (by decide)
    refine hq (20 * (w.1 59 - w.1 60) + q + 1).toNat v ⟨k, V, q, c, (v1 85 (by decide) (by decide) (by decide)).trans h85, hk, (v1 87 (by decide) (by decide) (by decide)).trans h87, a4, hc, Or.inr (Or.inl ⟨v90, v91, by rw [(a1 8 (by decide)).1]; exact v91b, a5, by omega⟩)⟩ a2 (by omega)
  have stop : ∀ v : iST, v.2 = w.2 → (∀ k, k ≠ 89 → k ≠ 90 → k ≠ 91 → v.1 k = w.1 k) → v.1 89 ≠ 0 → Q v := by
    intro v v2 v1 v89
    obtain ⟨a1, a2, a3, a4, a5⟩ := fr v v2 v1
    exact hq 0 v ⟨k, V, q, c, (v1 85 (by decide) (by decide) (by decide)).trans h85, hk, (v1 87 (by decide) (by decide) (by decide)).trans h87, a4, hc, Or.inl v89⟩ a2 (by omega)
  unfold w_beginEval
  refine zt_1 (sw_i ?_)
  have hT1 : TI (iI w 90 1) := e1
  refine s_isConstant (u := iI w 90 1) hT1 hr.1 hr.2 fun r _ hrc => br_i (fun hz => ?_) (fun hz => ?_)
  · have hnc : ¬ Cst w o := fun z => hrc.mpr z hz
    refine s_isPair (u := iI w 90 1) hr.1 (by omega) fun r2 _ hr2 => br_i (fun hp2 => ?_) (fun hp2 => ?_)
    · have hp : 0 ≤ w.2.1 0 o := by
        have : ¬ (w.2.1 0 o < 0) := fun z => hp2 (hr2.mpr z)
        omega
      have hne2 : w.2.1 0 o ≠ 2 := by
        intro z
        obtain ⟨c0, c1, c2⟩ := ht.step
        rcases c2 with y | y | y
        · omega
        · exact hnc (Or.inr (Or.inr (Or.inr y)))
        · exact y.2.1 z
      obtain ⟨n, n6, har, hl, ha⟩ := hx.args e1 ⟨hp, hne2⟩
      have hnl := hl
      have k109 : k < 300 → w_beginEval_109 Q o d base (iI (iI w 90 1) 90 0) := by
        intro hk3
        unfold w_beginEval_109
        refine rd_i fun _ => rd_i fun _ => br_i (fun hne => ?_) (fun heq => sw_i ?_)
        · have hne : w.1 60 ≠ w.1 59 := hne
          refine rd_i fun _ => ov_i (show -2147483648 ≤ w.1 60 + 1 by omega) (show w.1 60 + 1 < 2147483648 by omega) (sw_i (rd_i fun _ => ov_i (show -2147483648 ≤ w.1 88 - 1 by omega) (show w.1 88 - 1 < 2147483648 by omega) (sw_i (rd_i fun _ => bd_i (show 0 ≤ w.1 85 by omega) (show w.1 85 < 300 by omega) (sw_i (rd_i fun _ => bd_i hr.1 (by omega) (rd_i fun _ => bd_i (show 0 ≤ w.1 85 by omega) (show w.1 85 < 300 by omega) (sw_i (rd_i fun _ => rd_i fun _ => bd_i (show 0 ≤ w.1 85 by omega) (show w.1 85 < 300 by omega) (sw_i (rd_i fun _ => bd_i (show 0 ≤ w.1 85 by omega) (show w.1 85 < 300 by omega) (sw_i (rd_i fun _ => bd_i (show 0 ≤ w.1 85 by omega) (show w.1 85 < 300 by omega) (sw_i (rd_i fun _ => zt_0 (bd_i (show 0 ≤ w.1 85 by omega) (show w.1 85 < 300 by omega) (sw_i (rd_i fun _ => ov_i (show -2147483648 ≤ w.1 85 + 1 by omega) (show w.1 85 + 1 < 2147483648 by omega) (sw_i ?_)))))))))))))))))))
          generalize hvv : iI (iA (iA (iA (iA (iA (iA (iI (iI (iI (iI w 90 1) 90 0) 60 _) 88 _) 79 _ o) 80 _ _) 81 _ _) 82 _ d) 83 _ base) 84 _ 0) 85 _ = v
          have v79 : ∀ i, v.2.1 79 i = if i = (k : Int) then o else w.2.1 79 i := fun i => by rw [← hvv, ← h85]; rfl
          have v80 : ∀ i, v.2.1 80 i = if i = (k : Int) then w.2.1 1 o else w.2.1 80 i := fun i => by rw [← hvv, ← h85]; rfl
          have v81 : ∀ i, v.2.1 81 i = if i = (k : Int) then V else w.2.1 81 i := fun i => by rw [← hvv, ← h85, ← h87]; rfl
          have v82 : ∀ i, v.2.1 82 i = if i = (k : Int) then d else w.2.1 82 i := fun i => by rw [← hvv, ← h85]; rfl
          have v83 : ∀ i, v.2.1 83 i = if i = (k : Int) then base else w.2.1 83 i := fun i => by rw [← hvv, ← h85]; rfl
          have v84 : ∀ i, v.2.1 84 i = if i = (k : Int) then 0 else w.2.1 84 i := fun i => by rw [← hvv, ← h85]; rfl
          have vg : ∀ g, (g < 79 ∨ 84 < g) → v.2.1 g = w.2.1 g := fun g hg => by rw [← hvv]; exact (if_neg (by omega)).trans ((if_neg (by omega)).trans ((if_neg (by omega)).trans ((if_neg (by omega)).trans ((if_neg (by omega)).trans (if_neg (by omega))))))
          have vs : ∀ g, g ≠ 60 → g ≠ 85 → g ≠ 88 → g ≠ 90 → v.1 g = w.1 g := fun g g1 g2 g3 g4 => by rw [← hvv]; exact (if_neg g2).trans ((if_neg g3).trans ((if_neg g1).trans ((if_neg g4).trans (if_neg g4))))
          have v60 : v.1 60 = w.1 60 + 1 := by rw [← hvv]; rfl
          have v85 : v.1 85 = k + 1 := by rw [← hvv, ← h85]; rfl
          have v88 : v.1 88 = w.1 88 - 1 := by rw [← hvv]; rfl
          have v90 : v.1 90 = 0 := by rw [← hvv]; rfl
          have vL : v.2.2 = w.2.2 := by rw [← hvv]; rfl
          have vt : ∀ k, k ≤ 11 → v.1 k = w.1 k ∧ v.2.1 k = w.2.1 k := fun k hk => ⟨vs k (by omega) (by omega) (by omega) (by omega), vg k (by omega)⟩
          have vF : Fx fE w v := fun k hk => by
            have hk2 : k ≠ 60 ∧ ¬ (79 ≤ k ∧ k ≤ 91) := by simp [fE] at hk; omega
            exact ⟨vs k hk2.1 (by omega) (by omega) (by omega), vg k (by omega)⟩
          have vE : ExtT w v := ext_E vt vL vF
          have vT : TI v := TI_eq e1 vt vL
          have v59 : v.1 59 = w.1 59 := vs 59 (by decide) (by decide) (by decide) (by decide)
          have hxv := hx.ext e1 vT vE vF rfl rfl rfl
          clear hvv
          refine hq (20 * (w.1 59 - w.1 60 - 1) + q + 4 + 2 * n).toNat v ⟨k + 1, V, q, c + 1, by rw [v85]; omega, by omega, (vs 87 (by decide) (by decide) (by decide) (by decide)).trans h87, ⟨vT, e2.tr hu vE, e3.tr vF, by omega, by omega, by rw [vs 8 (by decide) (by decide) (by decide) (by decide), v60]; omega, by rw [vs 6 (by decide) (by decide) (by decide) (by decide), v60]; omega, by rw [vs 11 (by decide) (by decide) (by decide) (by decide)]; exact e8, by omega, by omega, ?_⟩, by omega, Or.inr (Or.inr ⟨v90, k, V, q, c, n, n, rfl, ⟨?_, ?_, ?_, ?_, n6, Nat.le_refl _, ?_, ?_, ?_, hvr.1, hvr.2.1⟩, hv.ext e1 vT vE vF (fun i hi => ?_), ?_, rfl, Int.le_refl _, rfl, fun _ => rfl, by omega⟩)⟩ vF (by omega)
          · rw [vs 87 (by decide) (by decide) (by decide) (by decide), vs 8 (by decide) (by decide) (by decide) (by decide), vg 86 (by omega)]; exact e11
          · rw [v79, if_pos rfl, vg 0 (by omega)]; exact hp
          · rw [v79, if_pos rfl, vg 0 (by omega)]; exact hne2
          · rw [v79, if_pos rfl, v82, if_pos rfl, v83, if_pos rfl]; exact hxv
          · rw [v79, if_pos rfl, vg 0 (by omega)]; exact vE.2.2 _ _ hp har
          · rw [v80, if_pos rfl]; exact hl.ext e1 vE.1
          · rw [v80, if_pos rfl, v82, if_pos rfl, v83, if_pos rfl]; exact (ha.ext vE.1 hl).imp (fun y hy => hy.ext e1 vT vE vF rfl rfl rfl)
          · rw [v81, if_pos rfl]
          · rw [v79, if_neg (by omega), v80, if_neg (by omega), v81, if_neg (by omega), v82, if_neg (by omega), v83, if_neg (by omega), v84, if_neg (by omega)]
            exact ⟨rfl, rfl, rfl, rfl, rfl, rfl⟩
          · rw [v84, if_pos rfl]
        · exact stop _ rfl (fun g g1 g2 g3 => (if_neg g1).trans ((if_neg g2).trans (if_neg g2))) (show (1 : Int) ≠ 0 by decide)
      refine zt_0 (sw_i (rd_i fun _ => br_i (fun h3 => ?_) (fun h3 => sw_i (stop _ rfl (fun g g1 g2 g3 => (if_neg g1).trans ((if_neg g2).trans (if_neg g2))) (show (2 : Int) ≠ 0 by decide)))))
      have h3 : w.1 85 ≠ 300 := h3
      refine br_i (fun _ => k109 (by omega)) (fun _ => rd_i fun _ => br_i (fun _ => k109 (by omega)) (fun _ => sw_i (stop _ rfl (fun g g1 g2 g3 => (if_neg g1).trans ((if_neg g2).trans (if_neg g2))) (show (-1 : Int) ≠ 0 by decide))))
    · have hneg : w.2.1 0 o < 0 := hr2.mp (by omega)
      have hsym : w.2.1 0 o = -2 := by
        have hkd := e1.kind hr.1 hr.2
        have : w.2.1 0 o ≠ -1 := fun z => hnc (Or.inl z)
        unfold KindOk at hkd
        omega
      have h0 : o ≠ 0 := fun z => hnc (Or.inr (Or.inl z))
      have h1 : o ≠ 1 := fun z => hnc (Or.inr (Or.inr (Or.inl z)))
      obtain ⟨x0, x1, x2, x3⟩ := hx
      rcases x3 with x3 | ⟨x4, x5, x6⟩
      · exact absurd (x3.2.step.1 ⟨hsym, h0, h1⟩) id
      · obtain ⟨kk, kk0, kk1, kk2⟩ := x5.2.step.1 ⟨hsym, h0, h1⟩
        have hdm := hD.2.2.1 d x0 x4
        unfold w_beginEval_34
        refine lf4 (B := fun R x1 x2 x3 x5 u => w_beginEval_34b R Q x1 x2 x3 x5 u) (fun y1 y2 y3 y5 z => z = iI w 90 1 ∧ y1 = o ∧ y2 = d ∧ y3 = base ∧ 0 ≤ y5 ∧ y5 ≤ kk) (fun _ _ _ y5 _ => (kk - y5).toNat) ?_ ⟨rfl, rfl, rfl, rfl, Int.le_refl _, kk0⟩
        intro y1 y2 y3 y5 z hI R ih
        obtain ⟨rfl, rfl, rfl, rfl, p1, p2⟩ := hI
        unfold w_beginEval_34b
        refine ov_i (by omega) (by omega) (ov_i (by omega) (by omega) (bd_i (by omega) (by omega) (rd_i fun _ => br_i (fun _ => ?_) (fun hne => ?_))))
        · refine ov_i (by omega) (by omega) (bd_i (by omega) (by omega) (rd_i fun _ => sw_i ?_))
          have hval := e11 (y3 + y5) (by omega) (by omega)
          exact done _ rfl (fun g g1 g2 g3 => (if_neg g3).trans (if_neg g2)) h89 (show (1 : Int) ≠ 0 by decide) hval.1 hval.2
        · have hne : w.2.1 38 (6 * y2 + y5) ≠ y1 := hne
          refine ov_i (by omega) (by omega) (ih _ _ _ _ _ ⟨rfl, rfl, rfl, rfl, by omega, ?_⟩ ?_)
          · rcases Int.lt_or_le y5 kk with z | z
            · omega
            · have : y5 = kk := by omega
              rw [this] at hne
              exact absurd kk2 hne
          · rcases Int.lt_or_le y5 kk with z | z
            · omega
            · have : y5 = kk := by omega
              rw [this] at hne
              exact absurd kk2 hne
  · refine s_valueOf (u := iI w 90 1) hT1 hr.1 hr.2 (hrc.mp hz) fun r2 r20 r21 => sw_i ?_
    exact done _ rfl (fun g g1 g2 g3 => (if_neg g3).trans (if_neg g2)) h89 (show (1 : Int) ≠ 0 by decide) r20 r21
