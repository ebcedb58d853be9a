/-! a row is split -/
def PI (u w : iST) (d e : Int) : Prop := WI w ∧ SP fC u w d e ∧ (∀ r, 0 ≤ r → r < w.1 117 → Cl w r) ∧ 0 ≤ w.1 117
theorem PI.sp {u w v : iST} {d e x y : Int} (hu : TI u) (h : PI u w d e) (g : SP fJ w v x y) : PI u v (d + x) (e + y) := by
  obtain ⟨a1, a2, a3, a4⟩ := h
  have gF := g.2.2.1
  refine ⟨g.wi a1, (a2.tr hu (g.up fJ_C)), fun r r0 r1 => ?_, by rw [fx_s gF 117 rfl]; exact a4⟩
  rw [fx_s gF 117 rfl] at r1
  exact (a3 r r0 r1).ext a1.1.1 g.2.1 (by rw [fx_a gF 115 rfl]) (fun i _ _ => by rw [fx_a gF 114 rfl]) (by rw [fx_a gF 116 rfl])
theorem PI.mono {u w : iST} {d e d' e' : Int} (h : PI u w d e) (hd : d ≤ d') (he : e ≤ e') : PI u w d' e' := ⟨h.1, h.2.1.mono hd he, h.2.2⟩
def fG (k : Nat) : Bool := decide (k = 61) || (decide (114 ≤ k) && decide (k ≤ 117)) || decide (k = 121) || decide (k = 122)
theorem fG_Q : ∀ k, fQ k = false → fG k = false := fun k hk => by simp [fQ] at hk; simp [fG]; omega
theorem fD_G : ∀ k, fG k = false → fD k = false := fun k hk => by simp [fG] at hk; simp [fD]; omega
theorem fW_G : ∀ k, fG k = false → fW k = false := fun k hk => by simp [fG] at hk; simp [fW]; omega
/-- rows that are the same, and the rest too -/
theorem PI.same {u w v : iST} {d e : Int} (hu : TI u) (h : PI u w d e) (hF : Fx fQ w v) (hL : v.2.2 = w.2.2) (h4 : v.2.1 114 = w.2.1 114) (h5 : v.2.1 115 = w.2.1 115) (h6 : v.2.1 116 = w.2.1 116) (h7 : v.1 117 = w.1 117) : PI u v d e := by
  obtain ⟨a1, a2, a3, a4⟩ := h
  have S := SP.sameC a1 hF hL
  refine ⟨S.wiC a1, (a2.tr hu S).mono (by omega) (by omega), fun r r0 r1 => ?_, by rw [h7]; exact a4⟩
  rw [h7] at r1
  exact (a3 r r0 r1).ext a1.1.1 S.2.1 (by rw [h5]) (fun i _ _ => by rw [h4]) (by rw [h6])
theorem g_splitRow {u w : iST} {r i a b d e : Int} {Q : Int → iST → Prop} (hu : TI u) (h : PI u w d e) (r0 : 0 ≤ r) (r1 : r < w.1 117) (h117 : w.1 117 < 2300) (h116 : w.2.1 116 r ≤ 5) (ha : IsT w a) (hsa : Sm w a) (hb : IsT w b) (hsb : Sm w b) (hq : ∀ q v, PI u v d e → Fx fG w v → v.2.2 = w.2.2 → ((v.1 61 ≠ 0 ∧ v.1 117 = w.1 117) ∨ (v.1 61 = 0 ∧ w.1 61 = 0 ∧ q = w.1 117 ∧ v.1 117 = w.1 117 + 1)) → (∀ j, j ≠ w.1 117 → v.2.1 116 j = w.2.1 116 j) → Q q v) : w_splitRow r i a b Q w := by
  have hW := h.1
  have hT := hW.1.1
  have hc := h.2.2.1 r r0 r1
  have c1 := hc.1
  have c2 := hc.2.1
  have c4 := hc.2.2.2.1
  unfold w_splitRow
  refine sw_i ?_
  unfold w_splitRow_8
  have eF : ∀ v, Fx fD w v → v.2.2 = w.2.2 → ExtT w v := fun v hv hL => ExtT.same (fun k hk => hv k (by simp [fD]; omega)) hL (SameF.of hv rfl rfl rfl rfl rfl)
  refine lf5 (B := fun R x1 x2 x3 x4 x5 u => w_splitRow_8b R Q x1 x2 x3 x4 x5 u) (fun x1 x2 x3 x4 x5 v => r = x1 ∧ a = x3 ∧ b = x4 ∧ 0 ≤ x5 ∧ x5 ≤ w.2.1 115 r ∧ Fx fD w v ∧ v.2.2 = w.2.2 ∧ DR v ∧ v.1 122 ≤ 2 * x5) (fun _ _ _ _ x5 _ => (30 - x5).toNat) ?_ ⟨rfl, rfl, rfl, Int.le_refl _, c1, Fx_I (k := 122) rfl, rfl, ⟨Int.le_refl _, fun j j0 j1 => by have j1 : j < 0 := j1; omega⟩, Int.le_refl _⟩
  intro x1 x2 x3 x4 x5 v hI R ih
  obtain ⟨e1, e2, e3, p1, p2, p3, p4, p5, p6⟩ := hI
  subst e1
  subst e2
  subst e3
  have vE := eF v p3 p4
  have vT : TI v := TI_eq hT (fun k hk => p3 k (by simp [fD]; omega)) p4
  have v61 := fx_s p3 61 rfl
  have v115 : v.2.1 115 = w.2.1 115 := fx_a p3 115 rfl
  have v114 : v.2.1 114 = w.2.1 114 := fx_a p3 114 rfl
  have v116 : v.2.1 116 = w.2.1 116 := fx_a p3 116 rfl
  have v117 : v.1 117 = w.1 117 := fx_s p3 117 rfl
  unfold w_splitRow_8b
  refine bd_i r0 (by omega) (rd_i fun _ => ?_)
  rw [v115]
  refine br_i (fun hle => bd_i r0 (by omega) (rd_i fun _ => ?_)) (fun hgt => br_i (fun _ => ?_) (fun _ => ov_i (by omega) (by omega) (ov_i (by omega) (by omega) (bd_i (by omega) (by omega) (rd_i fun _ => ?_)))))
  · rw [v116]
    refine ov_i (by omega) (by omega) (g_row vT p5 (by omega) (by omega) (by omega) (fun q q0 q1 => (h.2.2.1 q q0 (by omega)).ext hT vE (by rw [v115]) (fun _ _ _ => by rw [v114]) (by rw [v116])) (by omega) (by omega) fun q z zF zL z1 z2 z3 => ?_)
    have aF : Fx fG w z := (p3.mono fD_G).tr (zF.mono fW_G)
    have aL : z.2.2 = w.2.2 := zL.trans p4
    have S := SP.sameC hW (aF.mono fG_Q) aL
    refine hq q z ⟨S.wiC hW, (h.2.1.tr hu S).mono (by omega) (by omega), z2, by omega⟩ aF aL (by omega) (fun j hj => by rw [z3 j (by omega), v116])
  · refine g_put vT p5 (by omega) (ha.ext hT vE) (hsa.of ha vE v61) fun z z1 z2 z3 z4 => ?_
    have zE := eF z (p3.tr z1) (z2.trans p4)
    have zT : TI z := TI_eq hT (fun k hk => (p3.tr z1) k (by simp [fD]; omega)) (z2.trans p4)
    refine g_put zT z3 (by omega) (hb.ext hT zE) (hsb.of hb zE (fx_s (p3.tr z1) 61 rfl)) fun y y1 y2 y3 y4 => ov_i (by omega) (by omega) (ih _ _ _ _ _ _ ⟨rfl, rfl, rfl, by omega, by omega, (p3.tr z1).tr y1, y2.trans (z2.trans p4), y3, by omega⟩ (by omega))
  · rw [v114]
    have hl := hc.2.2.1 x5 p1 (by omega)
    refine g_put vT p5 (by omega) (hl.1.ext hT vE) (fun _ => (hl.ext hT vE).2) fun z z1 z2 z3 z4 => ov_i (by omega) (by omega) (ih _ _ _ _ _ _ ⟨rfl, rfl, rfl, by omega, by omega, p3.tr z1, z2.trans p4, z3, by omega⟩ (by omega))
/-- the rows that wait -/
def OR (w : iST) : Prop := 0 ≤ w.1 119 ∧ w.1 119 ≤ w.1 117 ∧ ∀ i, 0 ≤ i → i < w.1 119 → 0 ≤ w.2.1 118 i ∧ w.2.1 118 i < w.1 117
theorem g_split {u w : iST} {r i t d e : Int} {Q : iST → Prop} (hu : TI u) (h : PI u w d e) (hO : OR w) (hO1 : 1 ≤ w.1 119) (r0 : 0 ≤ r) (r1 : r < w.1 117) (h117 : w.1 117 ≤ 2298) (h116 : w.2.1 116 r ≤ 5) (h8 : w.1 8 + 6 ≤ 452000) (ht : TJ w t) (hs : w.2.1 0 t = 3 ∨ (w.2.1 0 t = 15 ∧ w.2.1 0 (w.2.1 0 (w.2.1 1 t)) = 3)) (hq : ∀ v, PI u v (d + 6) e → v.1 60 = w.1 60 → v.1 63 = w.1 63 → v.2.1 120 = w.2.1 120 → v.1 117 ≤ w.1 117 + 2 → w.1 117 ≤ v.1 117 → (v.1 61 = 0 → OR v ∧ v.1 119 = w.1 119 + 1) → Q v) : w_split r i t Q w := by
  -- what every state on the way keeps
  have k133 : ∀ (z : iST) (p q : Int), PI u z (d + 6) e → z.1 60 = w.1 60 → z.1 63 = w.1 63 → z.2.1 120 = w.2.1 120 → z.1 119 = w.1 119 → z.2.1 118 = w.2.1 118 → z.1 117 ≤ w.1 117 + 2 → w.1 117 ≤ z.1 117 → (z.1 61 = 0 → 0 ≤ p ∧ p < z.1 117 ∧ 0 ≤ q ∧ q < z.1 117 ∧ w.1 117 + 2 = z.1 117) → w_split_133 Q p q z := by
    intro z p q hz z60 z63 z120 z119 z118 z117 z117b hpq
    have o1 := hO.2.1
    unfold w_split_133
    refine rd_i fun _ => ov_i (by omega) (by omega) (sw_i (rd_i fun _ => bd_i (show 0 ≤ z.1 119 - 1 by omega) (show z.1 119 - 1 < 2300 by omega) (sw_i (rd_i fun _ => ov_i (show -2147483648 ≤ z.1 119 - 1 + 1 by omega) (show z.1 119 - 1 + 1 < 2147483648 by omega) (bd_i (show 0 ≤ z.1 119 - 1 + 1 by omega) (show z.1 119 - 1 + 1 < 2300 by omega) (sw_i (rd_i fun _ => ov_i (show -2147483648 ≤ z.1 119 - 1 + 2 by omega) (show z.1 119 - 1 + 2 < 2147483648 by omega) (sw_i ?_))))))))
    show Q (iI (iA (iA (iI z 119 (z.1 119 - 1)) 118 (z.1 119 - 1) q) 118 (z.1 119 - 1 + 1) p) 119 (z.1 119 - 1 + 2))
    generalize hy : iI (iA (iA (iI z 119 (z.1 119 - 1)) 118 (z.1 119 - 1) q) 118 (z.1 119 - 1 + 1) p) 119 (z.1 119 - 1 + 2) = y
    have yF : Fx fQ z y := by rw [← hy]; exact (((Fx_I (k := 119) rfl).tr (Fx_A (k := 118) rfl)).tr (Fx_A (k := 118) rfl)).tr (Fx_I (k := 119) rfl)
    have y1 : ∀ g, g ≠ 119 → y.1 g = z.1 g := fun g hg => by rw [← hy]; exact (if_neg hg).trans (if_neg hg)
    have yg : ∀ g, g ≠ 118 → y.2.1 g = z.2.1 g := fun g hg => by rw [← hy]; exact (iA_other hg).trans (iA_other hg)
    have y118 : ∀ j, y.2.1 118 j = if j = z.1 119 - 1 + 1 then p else if j = z.1 119 - 1 then q else z.2.1 118 j := fun j => by
      rw [← hy]
      show (iA (iA (iI z 119 (z.1 119 - 1)) 118 (z.1 119 - 1) q) 118 (z.1 119 - 1 + 1) p).2.1 118 j = _
      rw [iA_same, iA_same]
      rfl
    have y119 : y.1 119 = z.1 119 - 1 + 2 := by rw [← hy]; rfl
    have yL : y.2.2 = z.2.2 := by rw [← hy]; rfl
    clear hy
    refine hq y (hz.same hu yF yL (yg 114 (by decide)) (yg 115 (by decide)) (yg 116 (by decide)) (y1 117 (by decide))) (by rw [y1 60 (by decide)]; exact z60) (by rw [y1 63 (by decide)]; exact z63) (by rw [yg 120 (by decide)]; exact z120) (by rw [y1 117 (by decide)]; exact z117) (by rw [y1 117 (by decide)]; exact z117b) (fun y61 => ?_)
    rw [y1 61 (by decide)] at y61
    obtain ⟨q1, q2, q3, q4, q5⟩ := hpq y61
    refine ⟨⟨by omega, by rw [y1 117 (by decide)]; omega, fun j j0 j1 => ?_⟩, by omega⟩
    rw [y118, y1 117 (by decide)]
    by_cases e1 : j = z.1 119 - 1 + 1
    · rw [if_pos e1]; exact ⟨q1, q2⟩
    · rw [if_neg e1]
      by_cases e2 : j = z.1 119 - 1
      · rw [if_pos e2]; exact ⟨q3, q4⟩
      · rw [if_neg e2, z118]
        have := hO.2.2 j j0 (by omega)
        omega
  have k94 : ∀ (z : iST) (c a b D : Int), SP fM w z D 0 → z.1 60 = w.1 60 → D ≤ 4 → IsT z c → Sm z c → IsT z a → Sm z a → IsT z b → Sm z b → w_split_94 Q r i c a b z := by
    intro z c a b D hS z60 hD hc hsc ha hsa hb hsb
    have zF := hS.2.2.1
    have hz := h.sp hu (hS.up fM_J)
    have z8 := hS.2.2.2.2.2.2.2.1
    unfold w_split_94
    refine g_notOf hz.1.1 hc hsc (by omega) fun nc y hg hnc hsnc _ _ _ => ?_
    have gF := hg.2.2.1
    have hS2 := hS.tr h.1.1.1 (hg.sp hz.1)
    have hy := (h.sp hu (hS2.up fM_J)).mono (d' := d + 6) (e' := e) (by omega) (by omega)
    have yF := hS2.2.2.1
    have y117 : y.1 117 = w.1 117 := fx_s yF 117 rfl
    have y60 : y.1 60 = w.1 60 := by rw [fx_s gF 60 rfl]; exact z60
    have zT := hz.1.1.1
    have n61 : y.1 61 = 0 → z.1 61 = 0 := hg.w0
    have up : ∀ x, IsT z x → Sm z x → IsT y x ∧ Sm y x := fun x hx hsx => ⟨hx.ext zT hg.2.1, fun q => by rw [hg.2.1.szx hx]; exact hsx (n61 q)⟩
    refine g_splitRow hu hy r0 (by omega) (by omega) (by rw [fx_a yF 116 rfl]; exact h116) hnc hsnc (up a ha hsa).1 (up a ha hsa).2 fun q1 x hx xF xL x1 x2 => rd_i fun _ => br_i (fun h61 => ?_) (fun h61 => ?_)
    · exact k133 x q1 0 hx (by rw [fx_s xF 60 rfl]; exact y60) (by rw [fx_s xF 63 rfl, fx_s yF 63 rfl]) (by rw [fx_a xF 120 rfl, fx_a yF 120 rfl]) (by rw [fx_s xF 119 rfl, fx_s yF 119 rfl]) (by rw [fx_a xF 118 rfl, fx_a yF 118 rfl]) (by omega) (by omega) (fun q => absurd q h61)
    · have x61 : x.1 61 = 0 := by omega
      have hx1 : q1 = y.1 117 ∧ x.1 117 = y.1 117 + 1 := by omega
      have xE := (SP.sameC hy.1 (xF.mono fG_Q) xL).2.1
      have e61 : y.1 61 = 0 := by omega
      have up2 : ∀ t, IsT z t → Sm z t → IsT x t ∧ Sm x t := fun t ht hst => ⟨(up t ht hst).1.ext hy.1.1.1 xE, fun q => by rw [xE.szx (up t ht hst).1]; exact (up t ht hst).2 e61⟩
      refine g_splitRow hu hx r0 (by omega) (by omega) (by rw [x2 r (by omega), fx_a yF 116 rfl]; exact h116) (up2 c hc hsc).1 (up2 c hc hsc).2 (up2 b hb hsb).1 (up2 b hb hsb).2 fun q2 v hv vF vL v1 v2 => ?_
      exact k133 v q1 q2 hv (by rw [fx_s vF 60 rfl, fx_s xF 60 rfl]; exact y60) (by rw [fx_s vF 63 rfl, fx_s xF 63 rfl, fx_s yF 63 rfl]) (by rw [fx_a vF 120 rfl, fx_a xF 120 rfl, fx_a yF 120 rfl]) (by rw [fx_s vF 119 rfl, fx_s xF 119 rfl, fx_s yF 119 rfl]) (by rw [fx_a vF 118 rfl, fx_a xF 118 rfl, fx_a yF 118 rfl]) (by omega) (by omega) (fun q => by omega)
  have hW := h.1
  have hT := hW.1.1
  have hm := hT.2.1
  have rt := ht.1.r
  have k66 : ∀ (z : iST) (f y c a D : Int), SP fM w z D 0 → z.1 60 = w.1 60 → D ≤ 2 → TJ z y → z.2.1 0 y = 3 → IsT z c → Sm z c → IsT z a → Sm z a → w_split_66 Q r i f y c a z := by
    intro z f y c a D hS z60 hD hy h3 hc hsc ha hsa
    have hz := h.sp hu (hS.up fM_J)
    have zT := hz.1.1.1
    have z8 := hS.2.2.2.2.2.2.2.1
    unfold w_split_66
    refine br_i (fun _ => t_base zT hy (by omega) (by omega) (Or.inr (Or.inr ⟨rfl, h3⟩)) fun b hb => k94 z c a b D hS z60 (by omega) hc hsc ha hsa hb.1 (fun _ => hb.2)) fun _ => t_base zT hy (by omega) (by omega) (Or.inr (Or.inr ⟨rfl, h3⟩)) fun b hb => g_notOf hz.1.1 hb.1 (fun _ => hb.2) (by omega) fun nb x hg hnb hsnb _ _ _ => ?_
    have up : ∀ p, IsT z p → Sm z p → IsT x p ∧ Sm x p := fun p hp hsp => ⟨hp.ext zT hg.2.1, fun q => by rw [hg.2.1.szx hp]; exact hsp (hg.w0 q)⟩
    exact k94 x c a nb (D + 2) ((hS.tr hT (hg.sp hz.1)).mono (Int.le_refl _) (by omega)) (by rw [fx_s hg.2.2.1 60 rfl]; exact z60) (by omega) (up c hc hsc).1 (up c hc hsc).2 (up a ha hsa).1 (up a ha hsa).2 hnb hsnb
  have k29 : ∀ f y : Int, TJ w y → w.2.1 0 y = 3 → w_split_29 Q r i f y w := by
    intro f y hy h3
    have S0 : SP fM w w 0 0 := SP.rf hW
    unfold w_split_29
    refine t_base hT hy (by omega) (by omega) (Or.inl rfl) fun c hc => br_i (fun _ => t_base hT hy (by omega) (by omega) (Or.inr (Or.inl ⟨rfl, by omega⟩)) fun a ha => k66 w f y c a 0 S0 rfl (by decide) hy h3 hc.1 (fun _ => hc.2) ha.1 (fun _ => ha.2)) fun _ => t_base hT hy (by omega) (by omega) (Or.inr (Or.inl ⟨rfl, by omega⟩)) fun a ha => g_notOf hW.1 ha.1 (fun _ => ha.2) (by omega) fun na x hg hna hsna _ _ _ => ?_
    have ry := hy.1.r
    exact k66 x f y c na 2 (hg.sp hW) (fx_s hg.2.2.1 60 rfl) (by decide) (hy.ext hT hg.2.1) (by rw [(hg.2.1.1.2.1 _ ry.1 ry.2).1]; exact h3) (hc.1.ext hT hg.2.1) (fun q => by rw [hg.2.1.szx hc.1]; exact hc.2) hna hsna
  unfold w_split
  refine s_isCallOf rt.1 (by omega) fun f _ hf => br_i (fun hz => k29 _ _ ht ?_) (fun hz => ?_)
  · rcases hs with q | q
    · exact q
    · exact absurd hz (hf.mpr ⟨by omega, q.1⟩)
  · have h15 := (hf.mp hz).2
    have hrr := hT.right_r rt.1 rt.2
    have hin := TJ.el (i := 1) hT ht (by omega) (by omega) (Or.inl rfl)
    refine bd_i rt.1 (by omega) (rd_i fun _ => bd_i hrr.1 (by omega) (rd_i fun _ => k29 _ _ hin ?_))
    rcases hs with q | q
    · omega
    · exact q.2
