/-! a round of a row -/
def LR (w : iST) : Prop := 0 ≤ w.1 63 ∧ w.1 63 ≤ 20 ∧ ∀ i, 0 ≤ i → i < w.1 63 → 0 ≤ w.2.1 120 i ∧ w.2.1 120 i < w.1 117
def PE (u : iST) (N : Nat) (v : iST) : Prop := PI u v 700 40 ∧ LR v ∧ (v.1 61 = 0 → PI u v 0 0 ∧ OR v ∧ v.1 117 + 2 * (v.1 59 - v.1 60) ≤ 2300 ∧ (N : Int) = 3 * (v.1 59 - v.1 60) + v.1 119)
def BudP (u : iST) : Prop := u.1 8 + 260 * (u.1 59 - u.1 60) + 700 ≤ 452000 ∧ u.1 6 + 4 * (u.1 59 - u.1 60) + 40 < 40000
theorem LR.mono {w v : iST} (h : LR w) (h63 : v.1 63 = w.1 63) (h120 : v.2.1 120 = w.2.1 120) (h117 : w.1 117 ≤ v.1 117) : LR v := by
  unfold LR at *
  rw [h63, h120]
  exact ⟨h.1, h.2.1, fun i i0 i1 => by have := h.2.2 i i0 i1; omega⟩
theorem OR.mono {w v : iST} (h : OR w) (h119 : v.1 119 = w.1 119) (h118 : v.2.1 118 = w.2.1 118) (h117 : w.1 117 = v.1 117) : OR v := by
  unfold OR at *
  rw [h119, h118, ← h117]
  exact h
/-- what a row's round keeps at the head of its loop -/
def RH (u w v : iST) (r : Int) : Prop := PI u v 0 0 ∧ v.1 61 = 0 ∧ OR v ∧ LR v ∧ v.1 63 < 20 ∧ v.1 117 + 2 * (v.1 59 - v.1 60) ≤ 2300 ∧ 1 ≤ v.1 119 ∧ 0 ≤ r ∧ r < v.1 117 ∧ v.2.1 116 r ≤ 5 ∧ w.1 60 ≤ v.1 60 ∧ v.1 59 = w.1 59 ∧ v.1 119 = w.1 119
theorem g_leave {u w v : iST} {r : Int} {N : Nat} {Q : iST → Prop} (hu : TI u) (h : PI u v 0 0) (h61 : v.1 61 = 0) (hO : OR v) (hL : LR v) (h63 : v.1 63 < 20) (hcap : v.1 117 + 2 * (v.1 59 - v.1 60) ≤ 2300) (h119 : 1 ≤ v.1 119) (r0 : 0 ≤ r) (r1 : r < v.1 117) (hN : 3 * (v.1 59 - v.1 60) + v.1 119 ≤ N) (hq : ∀ (M : Nat) z, PE u M z → M < N → Q z) : w_leave r Q v := by
  have h60 := h.1.2.2.2.2.2.2.1
  have l0 := hL.1
  have o1 := hO.2.1
  unfold w_leave
  refine rd_i fun _ => bd_i l0 h63 (sw_i (rd_i fun _ => ov_i (show -2147483648 ≤ v.1 63 + 1 by omega) (show v.1 63 + 1 < 2147483648 by omega) (sw_i (rd_i fun _ => ov_i (show -2147483648 ≤ v.1 119 - 1 by omega) (show v.1 119 - 1 < 2147483648 by omega) (sw_i ?_)))))
  show Q (iI (iI (iA v 120 (v.1 63) r) 63 (v.1 63 + 1)) 119 (v.1 119 - 1))
  generalize hz : iI (iI (iA v 120 (v.1 63) r) 63 (v.1 63 + 1)) 119 (v.1 119 - 1) = z
  have zF : Fx fQ v z := by rw [← hz]; exact ((Fx_A (k := 120) rfl).tr (Fx_I (k := 63) rfl)).tr (Fx_I (k := 119) rfl)
  have z1 : ∀ g, g ≠ 63 → g ≠ 119 → z.1 g = v.1 g := fun g g1 g2 => by rw [← hz]; exact (if_neg g2).trans (if_neg g1)
  have zg : ∀ g, g ≠ 120 → z.2.1 g = v.2.1 g := fun g hg => by rw [← hz]; exact iA_other hg
  have z120 : ∀ j, z.2.1 120 j = if j = v.1 63 then r else v.2.1 120 j := fun j => by rw [← hz]; exact iA_same
  have z63 : z.1 63 = v.1 63 + 1 := by rw [← hz]; rfl
  have z119 : z.1 119 = v.1 119 - 1 := by rw [← hz]; rfl
  have zL : z.2.2 = v.2.2 := by rw [← hz]; rfl
  clear hz
  have z117 := z1 117 (by decide) (by decide)
  have z59 := z1 59 (by decide) (by decide)
  have z60 := z1 60 (by decide) (by decide)
  have hP := h.same hu zF zL (zg 114 (by decide)) (zg 115 (by decide)) (zg 116 (by decide)) z117
  refine hq (3 * (v.1 59 - v.1 60) + v.1 119 - 1).toNat z ⟨hP.mono (by decide) (by decide), ⟨by omega, by omega, fun i i0 i1 => ?_⟩, fun _ => ⟨hP, ⟨by omega, by omega, fun i i0 i1 => ?_⟩, by omega, by omega⟩⟩ (by omega)
  · rw [z120, z117]
    by_cases e : i = v.1 63
    · rw [if_pos e]; omega
    · rw [if_neg e]; exact hL.2.2 i i0 (by omega)
  · rw [zg 118 (by decide), z117]; exact hO.2.2 i i0 (by omega)
theorem PI.rowCh {u w v : iST} {r d e : Int} (hu : TI u) (h : PI u w d e) (hr : RowCh w v r) : PI u v d e := by
  obtain ⟨a1, a2, a3, a4⟩ := h
  have hF : Fx fQ w v := hr.1.mono (fun k hk => by simp [fQ] at hk; simp [fU]; omega)
  have S := SP.sameC a1 hF hr.2.1
  have e117 : v.1 117 = w.1 117 := fx_s hr.1 117 rfl
  refine ⟨S.wiC a1, (a2.tr hu S).mono (by omega) (by omega), fun q q0 q1 => ?_, by omega⟩
  by_cases e : q = r
  · rw [e]; exact hr.2.2.2.2
  · exact (a3 q q0 (by omega)).ext a1.1.1 S.2.1 (hr.2.2.2.1 q e) (fun i i0 i1 => hr.2.2.1 _ (by omega)) (by rw [fx_a hr.1 116 rfl])
theorem g_round {u w : iST} {r : Int} {N : Nat} {Q : iST → Prop} (hu : TI u) (hB : BudP u) (hw : RH u w w r) (hN : 3 * (w.1 59 - w.1 60) + w.1 119 ≤ N) (hq : ∀ (M : Nat) z, PE u M z → M < N → Q z) : w_round r Q w := by
  have N0 : 0 < N := by have := hw.1.1.2.2.2.2.2.2.1; have := hw.2.2.2.2.2.2.1; omega
  unfold w_round w_round_4
  refine lr3 (B := fun R x1 x2 x3 u => w_round_4b R Q x1 x2 x3 u) (fun n x1 x2 x3 v => r = x1 ∧ 0 ≤ x3 ∧ RH u w v r ∧ (x2 ≠ 0 → w.1 60 < v.1 60) ∧ (n : Int) = v.1 59 - v.1 60) ?_ (n := (w.1 59 - w.1 60).toNat) ⟨rfl, Int.le_refl _, hw, fun z => absurd rfl z, by have := hw.1.1.2.2.2.2.2.2.1; omega⟩
  intro n x1 x2 x3 v hI R ih
  obtain ⟨e1, p1, hv, p2, p3⟩ := hI
  subst e1
  obtain ⟨v1, v2, v3, v4, v5, v6, v7, r0, r1, v8, v9, v10, v11⟩ := hv
  have hW := v1.1
  have hT := hW.1.1
  have h60 := hW.2.2.2.2.2.2.1
  have hc := v1.2.2.1 r r0 r1
  have c1 := hc.1
  have c2 := hc.2.1
  have c4 := hc.2.2.2.1
  have bud : v.1 8 + 260 * (v.1 59 - v.1 60) + 700 ≤ 452000 ∧ v.1 6 + 4 * (v.1 59 - v.1 60) + 40 < 40000 := by
    have a := v1.2.1
    obtain ⟨_, _, b3, _, _, b6, b7, b8, b9, _, _⟩ := a
    have := fx_s b3 59 rfl
    unfold BudP at hB
    omega
  unfold w_round_4b
  refine bd_i r0 (by omega) (rd_i fun _ => br_i (fun hle => bd_i r0 (by omega) (rd_i fun _ => ov_i (by omega) (by omega) (bd_i r0 (by omega) (sw_i ?_)))) (fun hlt => sw_i ?_))
  · -- the round ends
    have zF : Fx fQ v (iA v 116 r (v.2.1 116 r + 1)) := Fx_A (k := 116) rfl
    have z116 : ∀ j, (iA v 116 r (v.2.1 116 r + 1)).2.1 116 j = if j = r then v.2.1 116 r + 1 else v.2.1 116 j := fun j => iA_same
    have zg : ∀ g, g ≠ 116 → (iA v 116 r (v.2.1 116 r + 1)).2.1 g = v.2.1 g := fun g hg => iA_other hg
    have z1 : (iA v 116 r (v.2.1 116 r + 1)).1 = v.1 := rfl
    have zL : (iA v 116 r (v.2.1 116 r + 1)).2.2 = v.2.2 := rfl
    generalize iA v 116 r (v.2.1 116 r + 1) = z at *
    have S := SP.sameC hW zF zL
    have hP : PI u z 0 0 := by
      refine ⟨S.wiC hW, (v1.2.1.tr hu S).mono (by omega) (by omega), fun q q0 q1 => ?_, by rw [z1]; omega⟩
      rw [z1] at q1
      have hq' := v1.2.2.1 q q0 q1
      refine ⟨by rw [zg 115 (by decide)]; exact hq'.1, by rw [zg 115 (by decide)]; exact hq'.2.1, fun i i0 i1 => ?_, ?_, ?_⟩
      · rw [zg 115 (by decide)] at i1
        rw [zg 114 (by decide)]
        exact (hq'.2.2.1 i i0 i1).ext hT S.2.1
      · rw [z116]; split
        · omega
        · exact hq'.2.2.2.1
      · rw [z116]; split
        · omega
        · exact hq'.2.2.2.2
    have hO : OR z := v3.mono (by rw [z1]) (zg 118 (by decide)) (by rw [z1])
    have hL : LR z := v4.mono (by rw [z1]) (zg 120 (by decide)) (by rw [z1]; omega)
    refine br_i (fun hx => ?_) (fun _ => g_leave (w := w) hu hP (by rw [z1]; exact v2) hO hL (by rw [z1]; exact v5) (by rw [z1]; exact v6) (by rw [z1]; exact v7) r0 (by rw [z1]; exact r1) (by rw [z1]; omega) hq)
    have hst := p2 hx
    refine s_together hP.1.1.1 (hP.2.2.1 r r0 (by rw [z1]; exact r1)) r0 (by omega) fun s => br_i (fun _ => ?_) (fun _ => s_fail fun y hy y0 y1 => ?_)
    · exact hq (3 * (v.1 59 - v.1 60) + v.1 119).toNat z ⟨hP.mono (by decide) (by decide), hL, fun _ => ⟨hP, hO, by rw [z1]; exact v6, by rw [z1]; omega⟩⟩ (by omega)
    · have z61 : z.1 61 = 0 := by rw [z1]; exact v2
      have y61 := y0 z61
      have yF : Fx fQ z y := by
        rcases hy with rfl | rfl
        · exact Fx.rf _ _
        · exact Fx_I (k := 61) rfl
      have yr : y.2 = z.2 := by rcases hy with rfl | rfl <;> rfl
      have hPy := hP.same hu yF (by rw [yr]) (by rw [yr]) (by rw [yr]) (by rw [yr]) (by rcases hy with rfl | rfl <;> rfl)
      exact hq 0 y ⟨hPy.mono (by decide) (by decide), hL.mono (by rcases hy with rfl | rfl <;> rfl) (by rw [yr]) (by rcases hy with rfl | rfl <;> exact Int.le_refl _), fun q => by rw [y61] at q; exact absurd q (by decide)⟩ N0
  · -- one literal more
    have hx3 : x3 < v.2.1 115 r := by omega
    have k104 : ∀ (y : iST) (t lit : Int), SP fJ v y 660 16 → WI y → (y.1 61 = 0 → SP fJ v y (-190) (-2) ∧ v.1 60 < y.1 60 ∧ TJ y t) → w_round_104 R Q r x2 x3 lit t y := by
      intro y t lit hS yW h0
      have yF := hS.2.2.1
      have y117 : y.1 117 = v.1 117 := fx_s yF 117 rfl
      have y119 : y.1 119 = v.1 119 := fx_s yF 119 rfl
      have y63 : y.1 63 = v.1 63 := fx_s yF 63 rfl
      have y59 : y.1 59 = v.1 59 := fx_s yF 59 rfl
      have y115 : y.2.1 115 = v.2.1 115 := fx_a yF 115 rfl
      have y116 : y.2.1 116 = v.2.1 116 := fx_a yF 116 rfl
      have y118 : y.2.1 118 = v.2.1 118 := fx_a yF 118 rfl
      have y120 : y.2.1 120 = v.2.1 120 := fx_a yF 120 rfl
      have yO : OR y := v3.mono y119 y118 y117.symm
      have yL : LR y := v4.mono y63 y120 (by omega)
      have y60b := yW.2.2.2.2.2.2.1
      unfold w_round_104
      refine rd_i fun _ => br_i (fun h61 => ?_) (fun h61 => hq 0 y ⟨(v1.sp hu hS).mono (by decide) (by decide), yL, fun q => absurd q h61⟩ N0)
      obtain ⟨S, st, ht⟩ := h0 h61
      have hP := v1.sp hu S
      have hP0 : PI u y 0 0 := hP.mono (by decide) (by decide)
      have yT := yW.1.1
      have hcy := hP0.2.2.1 r r0 (by omega)
      have cont : ∀ (z : iST) (f x : Int), PI u z 0 0 → Fx fU y z → 0 ≤ x → R r f x z := by
        intro z f x hz zF hx
        have z61 := fx_s zF 61 rfl
        have z63 := fx_s zF 63 rfl
        have z59 := fx_s zF 59 rfl
        have z60 := fx_s zF 60 rfl
        have z117 := fx_s zF 117 rfl
        have z119 := fx_s zF 119 rfl
        refine ih (y.1 59 - y.1 60).toNat _ _ _ _ (by omega) ⟨rfl, hx, ⟨hz, by omega, yO.mono z119 (fx_a zF 118 rfl) z117.symm, yL.mono z63 (fx_a zF 120 rfl) (by omega), by omega, by omega, by omega, r0, by omega, by rw [fx_a zF 116 rfl, y116]; exact v8, by omega, by omega, by omega⟩, fun _ => by omega, by omega⟩
      have k186 : ∀ (z : iST) (b : Int), PI u z 0 0 → Fx fU y z → w_round_186 R Q r x2 x3 lit t b z := by
        intro z b hz zF
        have k207 : ∀ f, w_round_207 R Q r x3 b f z := fun f => by
          unfold w_round_207
          exact br_i (fun _ => ov_i (by omega) (by omega) (cont z f _ hz zF (by omega))) fun _ => ov_i (by omega) (by omega) (cont z f _ hz zF (by omega))
        have k202 : w_round_202 R Q r x3 b z := by
          unfold w_round_202
          exact k207 1
        unfold w_round_186
        exact br_i (fun _ => k202) fun _ => br_i (fun _ => k202) fun _ => br_i (fun _ => k207 0) fun _ => k202
      have i1 : x3 < y.2.1 115 r := by rw [y115]; exact hx3
      have o1 := yO.2.1
      refine br_i (fun _ => s_splits yT ht fun b _ hb => br_i (fun _ => br_i (fun _ => br_i (fun _ => k186 y 1 hP0 (Fx.rf _ _)) fun _ => g_changeTo yT hcy r0 (by omega) p1 i1 ht fun b z _ hz => k186 z b (hP0.rowCh hu hz) hz.1) fun _ => g_removeAt yT hcy r0 (by omega) p1 i1 fun z hz _ => k186 z 0 (hP0.rowCh hu hz) hz.1) fun hbz => ?_) fun _ => rd_i fun _ => ov_i (by omega) (by omega) (sw_i ?_)
      · have y8 := S.2.2.2.2.2.2.2.1
        refine g_split hu hP yO (by omega) r0 (by omega) (by omega) (by rw [y116]; exact v8) (by omega) ht (hb hbz) fun z hz z60 z63 z120 z117 z117b hz0 => ?_
        have z59 : z.1 59 = y.1 59 := by rw [fx_s hz.2.1.2.2.1 59 rfl, fx_s hP.2.1.2.2.1 59 rfl]
        refine hq (3 * (y.1 59 - y.1 60) + y.1 119 + 1).toNat z ⟨hz.mono (by decide) (by decide), yL.mono z63 z120 z117b, fun z61 => ⟨hz.mono (by decide) (by decide), (hz0 z61).1, by omega, ?_⟩⟩ (by omega)
        have := (hz0 z61).2
        omega
      · have zF : Fx fQ y (iI y 119 (y.1 119 - 1)) := Fx_I (k := 119) rfl
        have hPz := hP0.same hu zF rfl rfl rfl rfl rfl
        refine hq (3 * (y.1 59 - y.1 60) + y.1 119 - 1).toNat _ ⟨hPz.mono (by decide) (by decide), yL.mono rfl rfl (Int.le_refl _), fun _ => ⟨hPz, ⟨show 0 ≤ y.1 119 - 1 by omega, show y.1 119 - 1 ≤ y.1 117 by omega, fun i i0 i1 => yO.2.2 i i0 (by have i1 : i < y.1 119 - 1 := i1; omega)⟩, show y.1 117 + 2 * (y.1 59 - y.1 60) ≤ 2300 by omega, show ((3 * (y.1 59 - y.1 60) + y.1 119 - 1).toNat : Int) = 3 * (y.1 59 - y.1 60) + (y.1 119 - 1) by omega⟩⟩ (by omega)
    have k72 : ∀ (z : iST) (D : Int), SP fJ v z D 0 → D ≤ 60 → z.1 60 = v.1 60 → 0 ≤ z.1 109 → z.1 109 ≤ 30 → (z.1 61 = 0 → CX z) → w_round_72 R Q r x2 x3 z := by
      intro z D hS hD z60 z109 z109b hC
      have zF := hS.2.2.1
      have zW := hS.wi hW
      have z8 := hS.2.2.2.2.2.2.2.1
      have z6 := hS.2.2.2.2.2.2.2.2.1
      have z59 := fx_s zF 59 rfl
      unfold w_round_72
      refine ov_i (by omega) (by omega) (ov_i (by omega) (by omega) (bd_i (by omega) (by omega) (rd_i fun _ => ?_)))
      rw [fx_a zF 114 rfl]
      have hl := (hc.2.2.1 x3 p1 hx3).ext hT hS.2.1
      refine rd_i fun _ => br_i (fun h61 => k104 z _ _ (hS.mono (by omega) (by decide)) zW (fun q => absurd q h61)) fun h61 => ?_
      have h61 : z.1 61 = 0 := by omega
      refine g_rewritten zW ⟨by omega, by omega⟩ (hC h61) (by omega) hl.1 (fun _ => hl.2) (Or.inr rfl) fun t y S W hh => k104 y t _ ((hS.tr hT S).mono (by omega) (by omega)) W (fun y61 => ?_)
      obtain ⟨g1, g2, g3, g4, g5⟩ := hh y61
      exact ⟨(hS.tr hT g1).mono (by omega) (by omega), by omega, g3⟩
    have S0 : SP fJ v (iI v 109 0) 0 0 := SP.same hW (fun _ h => h) (Fx_I (k := 109) rfl) (fun g hg => ⟨if_neg (by omega), rfl⟩) rfl rfl rfl rfl hW.2.2.2.1
    unfold w_round_22
    refine lf4 (B := fun R22 x1 x2 x3 x4 u => w_round_22b R R22 Q x1 x2 x3 x4 u) (fun y1 y2 y3 y4 z => r = y1 ∧ x2 = y2 ∧ x3 = y3 ∧ 0 ≤ y4 ∧ y4 ≤ v.2.1 115 r ∧ SP fJ v z (2 * y4) 0 ∧ z.1 60 = v.1 60 ∧ 0 ≤ z.1 109 ∧ z.1 109 ≤ y4 ∧ (z.1 61 = 0 → CX z)) (fun _ _ _ y4 _ => (30 - y4).toNat) ?_ ⟨rfl, rfl, rfl, Int.le_refl _, c1, S0.mono (by decide) (by decide), rfl, Int.le_refl _, Int.le_refl _, fun _ => ⟨Int.le_refl _, (by decide : (0 : Int) ≤ 200), fun i i0 i1 => by have i1 : i < 0 := i1; omega⟩⟩
    intro y1 y2 y3 y4 z hI2 R22 ih2
    obtain ⟨e1, e2, e3, q1, q2, q3, q4, q5, q6, q7⟩ := hI2
    subst e1
    subst e2
    subst e3
    have zF := q3.2.2.1
    have zW := q3.wi hW
    have z8 := q3.2.2.2.2.2.2.2.1
    have z72 := k72 z _ q3 (by omega) q4 q5 (by omega) q7
    unfold w_round_22b
    refine bd_i r0 (by omega) (rd_i fun _ => ?_)
    rw [fx_a zF 115 rfl]
    refine br_i (fun _ => z72) fun hlt2 => rd_i fun _ => br_i (fun _ => z72) fun h61 => br_i (fun _ => ov_i (by omega) (by omega) (ih2 _ _ _ _ _ ⟨rfl, rfl, rfl, by omega, by omega, q3.mono (by omega) (by omega), q4, q5, by omega, q7⟩ (by omega))) fun _ => ov_i (by omega) (by omega) (ov_i (by omega) (by omega) (bd_i (by omega) (by omega) (rd_i fun _ => ?_)))
    rw [fx_a zF 114 rfl]
    have hl := (hc.2.2.1 y4 q1 (by omega)).ext hT q3.2.1
    refine g_notOf zW.1 hl.1 (fun _ => hl.2) (by omega) fun t y hg hty hsty _ _ _ => ?_
    have gF := hg.2.2.1
    have gS := (hg.sp zW).up fM_J
    have yW := gS.wi zW
    have y109 : y.1 109 = z.1 109 := fx_s gF 109 rfl
    have y60 : y.1 60 = z.1 60 := fx_s gF 60 rfl
    refine s_push (by omega) (by omega) (ov_i (by omega) (by omega) ?_)
    have S2 : SP fJ y (iI (iA y 108 (y.1 109) t) 109 (y.1 109 + 1)) 0 0 := SP.same yW (fun _ h => h) ((Fx_A (k := 108) rfl).tr (Fx_I (k := 109) rfl)) (fun g hg => ⟨if_neg (by omega), iA_other (by omega)⟩) rfl rfl rfl rfl yW.2.2.2.1
    refine ih2 _ _ _ _ _ ⟨rfl, rfl, rfl, by omega, by omega, ((q3.tr hT gS).tr hT S2).mono (by omega) (by omega), show y.1 60 = v.1 60 by omega, show 0 ≤ y.1 109 + 1 by omega, show y.1 109 + 1 ≤ y4 + 1 by omega, fun y61 => ?_⟩ (by omega)
    have y61 : y.1 61 = 0 := y61
    have hCz := q7 (hg.w0 y61)
    refine ⟨show 0 ≤ y.1 109 + 1 by omega, show y.1 109 + 1 ≤ 200 by omega, fun i i0 i1 => ?_⟩
    have i1 : i < y.1 109 + 1 := i1
    have e : (iI (iA y 108 (y.1 109) t) 109 (y.1 109 + 1)).2.1 108 i = if i = y.1 109 then t else y.2.1 108 i := iA_same
    rw [e]
    by_cases ei : i = y.1 109
    · rw [if_pos ei]; exact TJ.ext yW.1.1 S2.2.1 ⟨hty, hsty y61⟩
    · rw [if_neg ei, fx_a gF 108 rfl]; exact ((hCz.2.2 i i0 (by omega)).ext zW.1.1 hg.2.1).ext yW.1.1 S2.2.1
