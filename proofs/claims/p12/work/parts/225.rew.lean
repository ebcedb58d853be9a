/-! what rewriting keeps -/
def RuleOk (u : iST) (r : Int) : Prop := TJ u (u.2.1 46 r) ∧ (0 ≤ u.2.1 0 (u.2.1 46 r) ∧ u.2.1 0 (u.2.1 46 r) ≠ 2) ∧ TJ u (u.2.1 47 r) ∧ 0 ≤ u.2.1 48 r ∧ u.2.1 48 r ≤ 120 ∧ ∀ i, 0 ≤ i → i < u.2.1 48 r → TJ u (u.2.1 49 (120 * r + i))
def RU (u : iST) : Prop := 0 ≤ u.1 42 ∧ u.1 42 ≤ 60 ∧ ∀ r, 0 ≤ r → r < u.1 42 → u.2.1 46 r = -1 ∨ RuleOk u r
def WI (u : iST) : Prop := GI u ∧ DB u ∧ RU u ∧ OI u ∧ u.1 57 = -1 ∧ 0 ≤ u.1 60 ∧ u.1 60 ≤ u.1 59 ∧ u.1 59 ≤ 1000
def fS (k : Nat) : Bool := fO k || decide (k = 64) || decide (k = 65)
/-- what is made, evaluated, told -/
def fM (k : Nat) : Bool := decide (k ≤ 11) || (decide (15 ≤ k) && decide (k ≤ 22) && decide (k ≠ 17) && decide (k ≠ 18)) || decide (k = 60) || decide (k = 61) || (decide (64 ≤ k) && decide (k ≤ 74)) || (decide (79 ≤ k) && decide (k ≤ 91))
def fJ (k : Nat) : Bool := fM k || (decide (92 ≤ k) && decide (k ≤ 113))
theorem fM_J : ∀ k, fJ k = false → fM k = false := fun k hk => by simp only [fJ, Bool.or_eq_false_iff] at hk; exact hk.1
theorem fB_M : ∀ k, fM k = false → fB k = false := fun k hk => by simp [fM] at hk; simp [fB]; omega
theorem fE_M : ∀ k, fM k = false → fE k = false := fun k hk => by simp [fM] at hk; simp [fE]; omega
theorem fS_M : ∀ k, fM k = false → fS k = false := fun k hk => by simp [fM] at hk; simp [fS, fO]; omega
theorem fY_M : ∀ k, fM k = false → fY k = false := fun k hk => by simp [fM] at hk; simp [fY]; omega
theorem fX_J : ∀ k, fJ k = false → fX k = false := fun k hk => by simp [fJ, fM] at hk; simp [fX]; omega
def SP (n : Nat → Bool) (u v : iST) (d e : Int) : Prop := TI v ∧ ExtT u v ∧ Fx n u v ∧ v.1 69 = 0 ∧ v.1 71 = 0 ∧ u.1 60 ≤ v.1 60 ∧ v.1 60 ≤ v.1 59 ∧ v.1 8 ≤ u.1 8 + 260 * (v.1 60 - u.1 60) + d ∧ v.1 6 ≤ u.1 6 + 4 * (v.1 60 - u.1 60) + e ∧ v.1 11 = u.1 11 ∧ OI v
theorem SP.rf {n : Nat → Bool} {u : iST} (h : WI u) : SP n u u 0 0 := ⟨h.1.1, ExtT.rf u, Fx.rf _ u, h.1.2.2.1, h.1.2.2.2, Int.le_refl _, h.2.2.2.2.2.2.1, by omega, by omega, rfl, h.2.2.2.1⟩
theorem SP.tr {n : Nat → Bool} {u v w : iST} {d e d' e' : Int} (hT : TI u) (h : SP n u v d e) (g : SP n v w d' e') : SP n u w (d + d') (e + e') := by
  obtain ⟨a1, a2, a3, a4, a5, a6, a7, a8, a9, a10, a11⟩ := h
  obtain ⟨b1, b2, b3, b4, b5, b6, b7, b8, b9, b10, b11⟩ := g
  exact ⟨b1, a2.tr hT b2, a3.tr b3, b4, b5, by omega, b7, by omega, by omega, b10.trans a10, b11⟩
theorem SP.mono {n : Nat → Bool} {u v : iST} {d e d' e' : Int} (h : SP n u v d e) (hd : d ≤ d') (he : e ≤ e') : SP n u v d' e' := by
  obtain ⟨a1, a2, a3, a4, a5, a6, a7, a8, a9, a10, a11⟩ := h
  exact ⟨a1, a2, a3, a4, a5, a6, a7, by omega, by omega, a10, a11⟩
theorem SP.up {n n' : Nat → Bool} {u v : iST} {d e : Int} (h : SP n u v d e) (hn : ∀ k, n' k = false → n k = false) : SP n' u v d e := by
  obtain ⟨a1, a2, a3, a4, a5, a6, a7, a8, a9, a10, a11⟩ := h
  exact ⟨a1, a2, a3.mono hn, a4, a5, a6, a7, a8, a9, a10, a11⟩
theorem RuleOk.ext {u v : iST} (hT : TI u) (h : ExtT u v) (hF : Fx fJ u v) {r : Int} (hr : RuleOk u r) : RuleOk v r := by
  obtain ⟨a1, a2, a3, a4, a5, a6⟩ := hr
  have e := h.1.2.1 _ a1.1.r.1 a1.1.r.2
  unfold RuleOk
  rw [fx_a hF 46 rfl, fx_a hF 47 rfl, fx_a hF 48 rfl, fx_a hF 49 rfl, e.1]
  exact ⟨a1.ext hT h, a2, a3.ext hT h, a4, a5, fun i i0 i1 => (a6 i i0 i1).ext hT h⟩
theorem SP.wi {u v : iST} {d e : Int} (h : SP fJ u v d e) (hW : WI u) : WI v := by
  obtain ⟨a1, a2, a3, a4, a5, a6, a7, a8, a9, a10, a11⟩ := h
  obtain ⟨b1, b2, b3, b4, b5, b6, b7, b8⟩ := hW
  refine ⟨⟨a1, b1.2.1.ext a2.1 (SameF.of a3 rfl rfl rfl rfl rfl), a4, a5⟩, b2.ext b1.1 a1 a2 a3 rfl rfl rfl rfl, ?_, a11, by rw [fx_s a3 57 rfl]; exact b5, by omega, a7, by rw [fx_s a3 59 rfl]; exact b8⟩
  unfold RU
  rw [fx_s a3 42 rfl, fx_a a3 46 rfl]
  exact ⟨b3.1, b3.2.1, fun r r0 r1 => (b3.2.2 r r0 r1).imp id (fun z => z.ext b1.1 a2 a3)⟩
theorem OI_eq {u v : iST} (h : OI u) (h1 : v.1 16 = u.1 16) (h2 : v.1 22 = u.1 22) : OI v := by
  unfold OI at *
  rw [h1, h2]; exact h
theorem GP.sp {u v : iST} {d : Int} (h : GP u v d) (hW : WI u) : SP fM u v d 0 := by
  obtain ⟨a1, a2, a3, a4, a5, a6, a7, a8, a9⟩ := h
  obtain ⟨b1, b2, b3, b4, b5, b6, b7, b8⟩ := hW
  have e60 := fx_s a3 60 rfl
  have e59 := fx_s a3 59 rfl
  exact ⟨a1, a2, a3.mono fB_M, a4, a5, by omega, by omega, by omega, by omega, a8, OI_eq b4 (fx_s a3 16 rfl) (fx_s a3 22 rfl)⟩
theorem EP.sp {u v : iST} {d e : Int} (h : EP u v d e) (hW : WI u) : SP fM u v d e := by
  obtain ⟨a1, a2, a3, a4, a5, a6, a7, a8⟩ := h
  obtain ⟨b1, b2, b3, b4, b5, b6, b7, b8⟩ := hW
  exact ⟨a1, a2, a3.mono fE_M, by rw [fx_s a3 69 rfl]; exact b1.2.2.1, by rw [fx_s a3 71 rfl]; exact b1.2.2.2, a4, a5 b7, by omega, by omega, a8, OI_eq b4 (fx_s a3 16 rfl) (fx_s a3 22 rfl)⟩
theorem SP.same {n : Nat → Bool} {u v : iST} (hW : WI u) (hn : ∀ k, fJ k = false → n k = false) (hF : Fx n u v) (ht : ∀ k, k ≤ 11 → v.1 k = u.1 k ∧ v.2.1 k = u.2.1 k) (hL : v.2.2 = u.2.2) (h69 : v.1 69 = u.1 69) (h71 : v.1 71 = u.1 71) (h60 : v.1 60 = u.1 60) (hO : OI v) : SP n u v 0 0 := by
  obtain ⟨b1, b2, b3, b4, b5, b6, b7, b8⟩ := hW
  have hR := hF.mono hn
  have e59 := fx_s hR 59 rfl
  have e8 := (ht 8 (by decide)).1
  have e6 := (ht 6 (by decide)).1
  exact ⟨TI_eq b1.1 ht hL, ExtT.same ht hL (SameF.of hR rfl rfl rfl rfl rfl), hF, by rw [h69]; exact b1.2.2.1, by rw [h71]; exact b1.2.2.2, by omega, by omega, by omega, by omega, (ht 11 (by decide)).1, hO⟩
theorem g_isSmaller {a b : Int} {Q : Int → iST → Prop} {u : iST} (hT : TI u) (hO : OI u) (a0 : 0 ≤ a) (a1 : a < u.1 8) (b0 : 0 ≤ b) (b1 : b < u.1 8) (hq : ∀ r v, bz r → Fx fS u v → v.2.2 = u.2.2 → OI v → Q r v) : w_isSmaller a b Q u := by
  have tab : ∀ v, Fx fS u v → ∀ k, k ≤ 11 → v.1 k = u.1 k ∧ v.2.1 k = u.2.1 k := fun v hv k hk => hv k (by simp [fS, fO]; omega)
  have fO_S : ∀ k, fS k = false → fO k = false := fun k hk => by simp only [fS, Bool.or_eq_false_iff] at hk; exact hk.1.1
  unfold w_isSmaller
  refine zt_1 (sw_i (sw_i ?_))
  have F0 : Fx fS u (iI (iI u 64 1) 22 0) := (Fx_I (k := 64) rfl).tr (Fx_I (k := 22) rfl)
  refine g_tellObject (TI_eq hT (tab _ F0) rfl) ⟨hO.1, hO.2.1, Int.le_refl _, (by decide : (0 : Int) ≤ 200)⟩ b0 b1 fun v hv => rd_i fun _ => ?_
  obtain ⟨v1, v2, v3, v4⟩ := hv
  have F1 : Fx fS u v := F0.tr (v2.mono fO_S)
  unfold w_isSmaller_23
  refine lf3 (B := fun R x1 x3 x4 u => w_isSmaller_23b R Q x1 x3 x4 u) (fun x1 x3 x4 w => x1 = a ∧ 0 ≤ x3 ∧ x3 ≤ 200 ∧ 0 ≤ x4 ∧ Fx fS u w ∧ w.2.2 = u.2.2 ∧ OI w) (fun _ x3 x4 _ => (x3 - x4).toNat) ?_ ⟨rfl, v1.2.2.1, v1.2.2.2, Int.le_refl _, F1, v3, v1⟩
  intro x1 x3 x4 w hI R ih
  obtain ⟨rfl, p1, p2, p3, p4, p5, p6⟩ := hI
  unfold w_isSmaller_23b
  refine br_i (fun hc => sw_i ?_) (fun hc => bd_i p3 (by omega) (rd_i fun _ => bd_i p3 (by omega) (sw_i (ov_i (by omega) (by omega) (ih _ _ _ _ ⟨rfl, p1, p2, by omega, p4.tr (Fx_A (k := 65) rfl), p5, p6⟩ (by omega))))))
  have F2 : Fx fS u (iI w 22 0) := p4.tr (Fx_I (k := 22) rfl)
  refine g_tellObject (TI_eq hT (tab _ F2) p5) ⟨p6.1, p6.2.1, Int.le_refl _, (by decide : (0 : Int) ≤ 200)⟩ a0 (by rw [(tab _ F2 8 (by decide)).1]; exact a1) fun z hz => zt_0 (sw_i ?_)
  obtain ⟨z1, z2, z3, z4⟩ := hz
  have F3 : Fx fS u (iI z 64 0) := (F2.tr (z2.mono fO_S)).tr (Fx_I (k := 64) rfl)
  have L3 : (iI z 64 0).2.2 = u.2.2 := z3.trans p5
  have O3 : OI (iI z 64 0) := z1
  generalize iI z 64 0 = y at *
  unfold w_isSmaller_67
  refine lf2 (B := fun R x3 x4 u => w_isSmaller_67b R Q x3 x4 u) (fun y3 y4 q => q = y ∧ 0 ≤ y4 ∧ y3 = x3) (fun _ y4 _ => (200 - y4).toNat) ?_ ⟨rfl, Int.le_refl _, rfl⟩
  intro y3 y4 q hI2 R2 ih2
  obtain ⟨rfl, s1, rfl⟩ := hI2
  have k114 : ∀ x5 y0, y4 < 200 → w_isSmaller_114 R2 Q y3 y4 x5 y0 q := by
    intro x5 y0 hlt
    unfold w_isSmaller_114
    exact br_i (fun _ => ov_i (by omega) (by omega) (ih2 _ _ _ ⟨rfl, by omega, rfl⟩ (by omega))) fun _ => br_i (fun _ => zt_0 (hq 0 q (Or.inl rfl) F3 L3 O3)) fun _ => zt_1 (hq 1 q (Or.inr rfl) F3 L3 O3)
  have k95 : ∀ y0, y4 < 200 → w_isSmaller_95 R2 Q y3 y4 y0 q := by
    intro y0 hlt
    unfold w_isSmaller_95
    exact br_i (fun _ => k114 _ _ hlt) fun _ => bd_i s1 hlt (rd_i fun _ => k114 _ _ hlt)
  unfold w_isSmaller_67b
  exact br_i (fun _ => zt_0 (hq 0 q (Or.inl rfl) F3 L3 O3)) fun hlt => rd_i fun _ => br_i (fun _ => k95 _ (by omega)) fun _ => bd_i s1 (by omega) (rd_i fun _ => k95 _ (by omega))
theorem Grow.gp {u v : iST} {d : Int} (hW : WI u) (h : Grow u v d 1) : SP fM u v d 1 := by
  obtain ⟨a1, a2, a3, a4, a5, a6, a7⟩ := h
  have hE : ExtT u v := Grow.extT ⟨a1, a2, a3, a4, a5, a6, a7⟩
  obtain ⟨b1, b2, b3, b4, b5, b6, b7, b8⟩ := hW
  have e60 := fx_s a4 60 rfl
  have e59 := fx_s a4 59 rfl
  exact ⟨a1, hE, (fT_B a4).mono fB_M, by rw [fx_s a4 69 rfl]; exact b1.2.2.1, by rw [fx_s a4 71 rfl]; exact b1.2.2.2, by omega, by omega, by omega, by omega, a7, OI_eq b4 (fx_s a4 16 rfl) (fx_s a4 22 rfl)⟩
theorem g_fallen {a b : Int} {Q : Int → iST → Prop} {u : iST} (hW : WI u) (ha : TJ u a) (hb : TJ u b) (h8b : u.1 8 + 5 ≤ 452000) (h6b : u.1 6 < 40000) (hn : Q (-1) u) (hq : ∀ t v, SP fM u v 4 1 → IsT v t → Sm v t → Q t v) : w_fallen a b Q u := by
  have hG := hW.1
  have hT := hG.1
  have h8 := hT.2.1
  have ra := ha.1.r
  have rb := hb.1.r
  have k77 : w_fallen_77 Q a b u := by
    unfold w_fallen_77
    refine s_isCallOf ra.1 (by omega) fun r _ hr => br_i (fun _ => hn) fun hz => ?_
    have hf := hr.mp hz
    refine t_base hT ha (by omega) (by omega) (Or.inl rfl) fun x hx => br_i (fun _ => t_base hT ha (by omega) (by omega) (Or.inr (Or.inl ⟨rfl, by omega⟩)) fun y hy => ?_) fun _ => hn
    have ry := hy.1.r
    refine s_isNatural ry.1 (by omega) fun r2 _ hr2 => br_i (fun _ => hn) fun hz2 => ?_
    have hnn : u.2.1 0 y = -1 := by
      have : ¬ (u.2.1 0 y ≠ -1) := fun z => hz2 (hr2.mpr z)
      omega
    have hv := hT.nat ry.1 ry.2 hnn
    refine s_value ry.1 (by omega) hv.1 hv.2.2.1 fun _ => br_i (fun _ => hn) fun _ => g_natural hT (by omega) h6b (Int.le_refl _) (by decide) fun k v hg k0 k1 hk _ => ?_
    have hS := Grow.gp hW hg
    have hV := (hS.up fM_J).wi hW
    have v8 := hg.2.2.2.2.1
    unfold w_made2
    refine g_made2 hV.1 (IsT.cst k0 k1 hV.1.1 (Or.inl hk)) (hb.1.ext hT hS.2.1) (by decide) (by decide) (by omega) fun t z hz _ _ => ?_
    have hz' := (hz.1.sp hV)
    exact hq t z ((hS.tr hT hz').mono (by omega) (by omega)) hz.2.1 hz.2.2.1
  have k55 : ∀ x3 x4, TJ u x3 → TJ u x4 → (u.2.1 0 x3 = 11 ∨ u.2.1 0 x3 = 12) → w_fallen_55 Q a b x3 x4 u := by
    intro x3 x4 h3 h4 hf
    unfold w_fallen_55
    refine t_base hT h3 (by omega) (by omega) (Or.inl rfl) fun x hx => br_i (fun _ => k77) fun _ => ?_
    exact g_made1 hG h4.1 (by decide) (by decide) (by omega) fun t z hz _ => hq t z ((hz.1.sp hW).mono (by omega) (by omega)) hz.2.1 hz.2.2.1
  unfold w_fallen
  refine s_isCallOf ra.1 (by omega) fun r _ hr => br_i (fun _ => k77) fun hz => s_isCallOf rb.1 (by omega) fun r2 _ hr2 => br_i (fun _ => k77) fun hz2 => ?_
  have f1 := hr.mp hz
  have f2 := hr2.mp hz2
  refine t_base hT ha (by omega) (by omega) (Or.inl rfl) fun x hx => t_base hT hb (by omega) (by omega) (Or.inl rfl) fun y hy => ?_
  have rx := hx.1.r
  refine s_isCallOf rx.1 (by omega) fun r3 _ hr3 => br_i (fun hz3 => k55 _ _ hx hy (Or.inl (hr3.mp hz3).2)) fun _ => s_isCallOf rx.1 (by omega) fun r4 _ hr4 => br_i (fun _ => k77) fun hz4 => k55 _ _ hx hy (Or.inr (hr4.mp hz4).2)
