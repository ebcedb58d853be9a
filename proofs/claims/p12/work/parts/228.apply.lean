/-! rules are tried; a call whose terms are rewritten -/
def K0 (u y : iST) (k n : Nat) (R C x d e : Int) : Prop := Wt u y (k + 1) k R R C d e ∧ y.2.1 92 k = x ∧ TJ y x ∧ Call y x ∧ 5 * (y.1 59 - y.1 60) + 2 * ((k + 1 : Nat) : Int) ≤ n
theorem K0.sp {u y z : iST} {k n : Nat} {R C x d e a b : Int} (hu : TI u) (h : K0 u y k n R C x d e) (g : SP fM y z a b) : K0 u z k n R C x (d + a) (e + b) := by
  obtain ⟨h1, h2, h3, h4, h5⟩ := h
  have hr := h3.1.r
  have e0 := g.2.1.1.2.1 _ hr.1 hr.2
  have g60 := g.2.2.2.2.2.1
  have g59 := fx_s g.2.2.1 59 rfl
  refine ⟨h1.sp hu g, by rw [fx_a g.2.2.1 92 rfl]; exact h2, h3.ext h1.1.1.1 g.2.1, by unfold Call; rw [e0.1]; exact h4, by omega⟩
theorem K0.mono {u y : iST} {k n : Nat} {R C x d e d' e' : Int} (h : K0 u y k n R C x d e) (hd : d ≤ d') (he : e ≤ e') : K0 u y k n R C x d' e' := ⟨h.1.mono hd he, h.2⟩
theorem K0.row {u y z : iST} {k n : Nat} {R C x d e : Int} (hu : TI u) (h : K0 u y k n R C x d e) (hF : Fx fN y z) (hL : z.2.2 = y.2.2) (hr : ∀ i : Nat, i < k → RowEq y z i) (h92 : z.2.1 92 = y.2.1 92) : K0 u z k n R C x d e := by
  obtain ⟨h1, h2, h3, h4, h5⟩ := h
  have hE := (SP.rows h1.1 hF hL).2.1
  have hr' := h3.1.r
  have e0 := hE.1.2.1 _ hr'.1 hr'.2
  refine ⟨h1.row hu hF hL hr, by rw [h92]; exact h2, h3.ext h1.1.1.1 hE, by unfold Call; rw [e0.1]; exact h4, by rw [fx_s hF 59 rfl, fx_s hF 60 rfl]; exact h5⟩
theorem K0.set {u y : iST} {k n : Nat} {R C x d e a : Int} {g : Nat} (hu : TI u) (h : K0 u y k n R C x d e) (h1 : 92 < g) (h2 : g ≤ 101) : K0 u (iA y g k a) k n R C x d e := h.row hu (Fx_A (k := g) (by simp [fN]; omega)) rfl (fun i hi => RowEq.set (by omega) (by omega) h2) (iA_other (by omega))
theorem K0.stop {u y : iST} {k n : Nat} {R C x d e : Int} {Q : iST → Prop} (h : K0 u y k n R C x d e) (hd : d ≤ 600) (he : e ≤ 16) (h61 : y.1 61 ≠ 0) (hq : ∀ (N : Nat) v, EX u N v → N < n → Q v) : Q y := hq 0 y (h.1.stop hd he h61) (by have := h.2.2.2.2; have := h.1.1.2.2.2.2.2.2.1; omega)
theorem K0.end0 {u y : iST} {k n : Nat} {R C x d e t : Int} {Q : iST → Prop} (hu : TI u) (h : K0 u y k n R C x d e) (hd : d ≤ 20) (he : e ≤ 4) (ht : IsT y t) (hs : Sm y t) (hq : ∀ (N : Nat) v, EX u N v → N < n → Q v) : w_end0 t Q y := g_end0 hu h.1 hd he ht hs h.2.2.2.2 hq
theorem K0.passOn {u y : iST} {k n : Nat} {R C x d e t : Int} {Q : iST → Prop} (hu : TI u) (h : K0 u y k n R C x d e) (hd : d ≤ 260) (he : e ≤ 4) (ht : IsT y t) (hs : Sm y t) (hq : ∀ (N : Nat) v, EX u N v → N < n → Q v) : w_passOn t Q y := g_passOn hu h.1 hd he (by rw [h.2.1]; exact h.2.2.1) ht hs h.2.2.2.2 hq
theorem g_tryRules {u w : iST} {k n : Nat} {R C x d e a : Int} {Q : iST → Prop} (hu : TI u) (hB : Bud u) (h : K0 u w k n R C x d e) (hd : d ≤ 20) (he : e ≤ 4) (a0 : -1 ≤ a) (a1 : a < w.1 42) (hq : ∀ (N : Nat) v, EX u N v → N < n → Q v) : w_tryRules k a Q w := by
  have hk : k + 1 ≤ 60 := h.1.2.2.2.1
  unfold w_tryRules
  refine bd_i (by omega) (by omega) (rd_i fun _ => ?_)
  rw [h.2.1]
  unfold w_tryRules_10
  refine lf3 (B := fun R x1 x3 x4 u => w_tryRules_10b R Q x1 x3 x4 u) (fun x1 x3 x4 v => x1 = k ∧ x3 = x ∧ K0 u v k n R C x 20 4 ∧ -1 ≤ x4 ∧ x4 < v.1 42) (fun _ _ x4 _ => (x4 + 1).toNat) ?_ ⟨rfl, rfl, h.mono hd he, a0, a1⟩
  intro x1 x3 x4 v hI Rr ih
  obtain ⟨rfl, rfl, hv, p1, p2⟩ := hI
  have hW := hv.1.1
  have hT := hW.1.1
  have hm := hT.2.1
  have hRU := hW.2.2.1
  have h42 := hRU.2.1
  have k186 : w_tryRules_186 Q k v := by
    unfold w_tryRules_186
    exact rd_i fun _ => br_i (fun h61 => hv.stop (by omega) (by omega) h61 hq) fun _ => g_define hu hB hv.1 (by omega) (by omega) (by rw [hv.2.1]; exact hv.2.2.1) (by rw [hv.2.1]; exact hv.2.2.2.1) hv.2.2.2.2 hq
  have next : ∀ z, K0 u z k n R C x3 20 4 → z.1 42 = v.1 42 → 0 ≤ x4 → ov (x4 + (-1)) (Rr k x3 (x4 + (-1)) z) := fun z hz hz2 h0 => ov_i (by omega) (by omega) (ih _ _ _ _ ⟨rfl, rfl, hz, by omega, by omega⟩ (by omega))
  have k72 : 0 ≤ x4 → RuleOk v x4 → w_tryRules_72 Rr Q k x3 x4 v := by
    intro h0 hr
    have bud := hv.1.bud hB
    obtain ⟨r1, r2, r3, r4, r5, r6⟩ := hr
    have rl := r1.1.r
    have rx := hv.2.2.1.1.r
    unfold w_tryRules_72
    refine bd_i h0 (by omega) (rd_i fun _ => bd_i rl.1 (by omega) (rd_i fun _ => bd_i rx.1 (by omega) (rd_i fun _ => br_i (fun _ => next v hv rfl h0) (fun _ => bd_i h0 (by omega) (rd_i fun _ => g_matches hT r1 hv.2.2.1 (by omega) (by omega) fun r z hrb hz => ?_)))))
    have zF : Fx fN v z := hz.1.mono fX_N
    have hzK : K0 u z k n R C x3 20 4 := by
      refine hv.row hu zF hz.2.1 (fun i hi => ⟨fun g g1 g2 => ?_, hz.2.2.1 _ (by omega), fun j j0 j1 => hz.2.2.2.1 _ (by omega)⟩) (fx_a hz.1 92 rfl)
      rw [fx_a hz.1 g (by simp [fX]; omega)]
    have hzW := hzK.1.1
    have zE := (SP.rows hW zF hz.2.1).2.1
    have zJ : Fx fJ v z := zF.mono fN_J
    have hPR : PR z k := ⟨hz.2.2.2.2.1, hz.2.2.2.2.2.1, fun i i0 i1 => (hz.2.2.2.2.2.2 i i0 i1).ext hT zE⟩
    have hRule : RuleOk z x4 := RuleOk.ext hT zE zJ ⟨r1, r2, r3, r4, r5, r6⟩
    have z42 : z.1 42 = v.1 42 := fx_s zJ 42 rfl
    have z60 := hzW.2.2.2.2.2
    have k152 : ∀ y a b, SP fM z y a b → a ≤ 0 → b ≤ 0 → w_tryRules_152 Q k x4 y := by
      intro y a b hy ha hb
      have hyK := ((hzK.sp hu hy).mono (d' := 20) (e' := 4) (by omega) (by omega))
      have hyF := hy.2.2.1
      have hyW := hyK.1.1
      have yR : RuleOk y x4 := hRule.ext hzW.1.1 hy.2.1 (hyF.mono fM_J)
      have yP : PR y k := hPR.ext hzW.1.1 hy.2.1 (by rw [fx_a hyF 107 rfl]) (fun j _ _ => by rw [fx_a hyF 106 rfl])
      have y42 : y.1 42 = z.1 42 := fx_s hyF 42 rfl
      unfold w_tryRules_152
      refine bd_i (by omega) (by omega) (sw_i (bd_i (by omega) (by omega) (sw_i ?_)))
      have hqK := (hyK.set (g := 100) (a := x4) hu (by decide) (by decide)).set (g := 101) (a := 0) hu (by decide) (by decide)
      have qE := (SP.rows (v := iA (iA y 100 (k : Int) x4) 101 (k : Int) 0) hyW ((Fx_A (k := 100) rfl).tr (Fx_A (k := 101) rfl)) rfl).2.1
      have qF : Fx fJ y (iA (iA y 100 (k : Int) x4) 101 (k : Int) 0) := (Fx_A (k := 100) rfl).tr (Fx_A (k := 101) rfl)
      have q100 : (iA (iA y 100 (k : Int) x4) 101 (k : Int) 0).2.1 100 k = x4 := by rw [iA_other (by decide), iA_same, if_pos rfl]
      have q101 : (iA (iA y 100 (k : Int) x4) 101 (k : Int) 0).2.1 101 k = 0 := by rw [iA_same, if_pos rfl]
      have q107 : (iA (iA y 100 (k : Int) x4) 101 (k : Int) 0).2.1 107 = y.2.1 107 := (iA_other (by decide)).trans (iA_other (by decide))
      have q106 : (iA (iA y 100 (k : Int) x4) 101 (k : Int) 0).2.1 106 = y.2.1 106 := (iA_other (by decide)).trans (iA_other (by decide))
      generalize iA (iA y 100 (k : Int) x4) 101 (k : Int) 0 = q at *
      refine rd_i fun _ => br_i (fun h61 => hqK.stop (by omega) (by omega) h61 hq) fun _ => ?_
      have qR := yR.ext hyW.1.1 qE qF
      refine g_nextHypothesis hu hB hqK.1 (by omega) (by omega) (by rw [hqK.2.1]; exact hqK.2.2.1) (by rw [hqK.2.1]; exact hqK.2.2.2.1) ⟨by rw [q100]; exact h0, by rw [q100, fx_s qF 42 rfl]; omega, by rw [q100]; exact qR, by rw [q101]; exact Int.le_refl _, yP.ext hyW.1.1 qE (by rw [q107]) (fun _ _ _ => by rw [q106])⟩ ?_ hqK.2.2.2.2 hq
      rw [q101, q100]
      exact qR.2.2.2.1
    refine br_i (fun _ => next z hzK z42 h0) fun _ => s_isStep z60.1 (by omega) (fun hst => br_y (by decide) ?_) (fun y hy hy61 => br_n (fun q => q rfl) ?_)
    · have hS1 := SP.step hzW hst
      have hW1 := (hS1.up fM_J).wi hzW
      have hP1 : PR (iI z 60 (z.1 60 + 1)) k := hPR.ext hzW.1.1 hS1.2.1 rfl (fun _ _ _ => rfl)
      refine g_takePairs hW1.1.1 (by omega) (by omega) hP1.1 hP1.2.1 hP1.2.2 fun y F L sub => ?_
      have yt : ∀ g, g ≤ 11 → y.1 g = (iI z 60 (z.1 60 + 1)).1 g ∧ y.2.1 g = (iI z 60 (z.1 60 + 1)).2.1 g := fun g hg => F g (by simp [fY]; omega)
      have hS2 : SP fM (iI z 60 (z.1 60 + 1)) y 0 0 := SP.same hW1 fM_J (F.mono fY_M) yt L (fx_s F 69 rfl) (fx_s F 71 rfl) (fx_s F 60 rfl) (OI_eq hW1.2.2.2.1 (fx_s F 16 rfl) (fx_s F 22 rfl))
      have hS := hS1.tr hzW.1.1 hS2
      have hyK := hzK.sp hu hS
      have hyW := hyK.1.1
      have ybud := hyK.1.bud hB
      have yR : RuleOk y x4 := hRule.ext hzW.1.1 hS.2.1 (hS.2.2.1.mono fM_J)
      refine bd_i h0 (by omega) (rz_i fun _ => br_i (fun _ => k152 y _ _ hS (by omega) (by omega)) fun _ => bd_i h0 (by omega) (rd_i fun _ => ?_))
      have ys := yR.2.2.1.2
      have ys0 := yR.2.2.1.1.szr hyW.1.1
      refine g_inst hyW.1 yR.2.2.1.1 ys sub (by omega) fun t q hg ht hts _ _ => ?_
      have hS3 := hS.tr hzW.1.1 (hg.sp hyW)
      have hqK := hzK.sp hu hS3
      have hqW := hqK.1.1
      have tr := ht.r
      have xr := hqK.2.2.1.1.r
      refine g_isSmaller hqW.1.1 hqW.2.2.2.1 tr.1 tr.2 xr.1 xr.2 fun r5 p _ pF pL pO => ?_
      have pt : ∀ g, g ≤ 11 → p.1 g = q.1 g ∧ p.2.1 g = q.2.1 g := fun g hg => pF g (by simp [fS, fO]; omega)
      have hS4 : SP fM q p 0 0 := SP.same hqW fM_J (pF.mono fS_M) pt pL (fx_s pF 69 rfl) (fx_s pF 71 rfl) (fx_s pF 60 rfl) pO
      have hS5 := hS3.tr hzW.1.1 hS4
      exact br_i (fun _ => next p ((hzK.sp hu hS5).mono (by omega) (by omega)) ((fx_s hS5.2.2.1 42 rfl).trans z42) h0) fun _ => k152 p _ _ hS5 (by omega) (by omega)
    · have hS : SP fM z y 0 0 := by
        have yF : Fx fM z y := by
          rcases hy with rfl | rfl
          · exact Fx.rf _ _
          · exact Fx_I (k := 61) rfl
        rcases hy with rfl | rfl
        · exact SP.rf hzW
        · exact SP.same hzW fM_J yF (fun g hg => ⟨if_neg (by omega), rfl⟩) rfl rfl rfl rfl hzW.2.2.2.1
      exact (hzK.sp hu hS).stop (by omega) (by omega) hy61 hq
  unfold w_tryRules_10b
  refine br_i (fun _ => k186) fun h0 => rd_i fun _ => br_i (fun _ => k186) fun _ => bd_i (by omega) (by omega) (rd_i fun _ => br_i (fun _ => next v hv rfl (by omega)) fun hne => ?_)
  have hr := (hRU.2.2 x4 (by omega) p2).resolve_left hne
  exact bd_i (by omega) (by omega) (rz_i fun _ => br_i (fun _ => next v hv rfl (by omega)) fun _ => bd_i (by omega) (by omega) (rz_i fun _ => br_i (fun _ => next v hv rfl (by omega)) fun _ => bd_i (by omega) (by omega) (rz_i fun _ => br_i (fun _ => k72 (by omega) hr) fun _ => bd_i (by omega) (by omega) (rz_i fun _ => br_i (fun _ => next v hv rfl (by omega)) fun _ => k72 (by omega) hr))))
