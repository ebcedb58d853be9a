/-! takeValue, goOn, evaluated -/
theorem el_arg (u : iST) (o : Int) (i : Nat) : el u o (i + 1) = el u (u.2.1 1 o) i := rfl
/-- the state keeps all that Ev needs, but for frame k, which ends -/
theorem Ev.end_ {u v : iST} {k : Nat} {V V' q' c' : Int} {n m : Nat} (hT : TI u) (hV : TI v) (h : ExtT u v) (hF : Fx fE u v) (h1 : EF u k n m V') (h2 : Ev u k V' q' c') (h3 : V' ≤ V) (h4 : V ≤ V' + 6) (e79 : v.2.1 79 = u.2.1 79) (e80 : v.2.1 80 = u.2.1 80) (e81 : v.2.1 81 = u.2.1 81) (e82 : v.2.1 82 = u.2.1 82) (e83 : v.2.1 83 = u.2.1 83) (e84 : ∀ i, v.2.1 84 i = if i = (k : Int) then 1 else u.2.1 84 i) : Ev v (k + 1) V (q' + 1) c' := by
  refine ⟨V', q', c', n, m, h1.ext hT hV h hF (by rw [e79]) (by rw [e80]) (by rw [e81]) (by rw [e82]) (by rw [e83]), h2.ext hT hV h hF (fun i hi => ⟨by rw [e79], by rw [e80], by rw [e81], by rw [e82], by rw [e83], by rw [e84, if_neg (by omega)]⟩), h3, h4, Or.inl ⟨by rw [e84, if_pos rfl]; decide, rfl, rfl⟩⟩
theorem g_takeValue {u w : iST} {lim : Int} {k : Nat} {V q c : Int} {N : Nat} {Q : iST → Prop} (hu : TI u) (h85 : w.1 85 = k + 1) (hk : k + 1 ≤ 300) (h87 : w.1 87 = V) (h89 : w.1 89 = 0) (hE : E0 u w c) (hc : 0 ≤ c) (hD : DI w) (h90 : w.1 90 ≠ 0) (h91 : 0 ≤ w.1 91) (h91b : w.1 91 < w.1 8) (hv : Ev w (k + 1) V q c) (hN : (N : Int) = 20 * (w.1 59 - w.1 60) + q + 1) (hf : w.1 59 ≤ 1000) (hst : 0 ≤ w.1 60) (hq : ∀ (M : Nat) v, M < N → EI u M v → Q v) : w_takeValue lim Q w := by
  have hvr := hv.r
  obtain ⟨V', q', c', n, m, f1, f2, f3, f4, f5⟩ := hv
  have hE' := hE
  obtain ⟨e1, e2, e3, e4, e5, e6, e7, e8, e9, e10, e11⟩ := hE'
  have h8 := e1.2.1
  have hf2r := f2.r
  have ht := f1.2.2.1.it.r
  have ek : w.1 85 - 1 = k := by omega
  unfold w_takeValue
  refine rd_i fun _ => ov_i (by omega) (by omega) ?_
  rw [ek]
  refine bd_i (by omega) (by omega) (rz_i fun _ => br_i (fun hz => ?_) (fun hz => ?_))
  · rcases f5 with ⟨z, _⟩ | ⟨_, f6, f7, f8⟩
    · exact absurd hz z
    · refine bd_i (by omega) (by omega) (rd_i fun _ => bd_i ht.1 (by omega) (rd_i fun _ => br_i (fun hif => ?_) (fun hif => ?_)))
      · -- a value more
        rcases f8 with ⟨z, _⟩ | ⟨_, f9⟩
        · exact absurd z hif
        · refine rd_i fun _ => rd_i fun _ => bd_i (by omega) (by omega) (sw_i (rd_i fun _ => ov_i (show -2147483648 ≤ w.1 87 + 1 by omega) (show w.1 87 + 1 < 2147483648 by omega) (sw_i (zt_0 (sw_i ?_)))))
          generalize hvv : iI (iI (iA w 86 _ _) 87 _) 90 0 = v
          have v86 : ∀ i, v.2.1 86 i = if i = V then w.1 91 else w.2.1 86 i := fun i => by rw [← hvv, ← h87]; rfl
          have vg : ∀ g, g ≠ 86 → v.2.1 g = w.2.1 g := fun g hg => by rw [← hvv]; exact if_neg hg
          have vs : ∀ g, g ≠ 87 → g ≠ 90 → v.1 g = w.1 g := fun g g1 g2 => by rw [← hvv]; exact (if_neg g2).trans (if_neg g1)
          have v87 : v.1 87 = V + 1 := by rw [← hvv, ← h87]; rfl
          have v90 : v.1 90 = 0 := by rw [← hvv]; rfl
          have vL : v.2.2 = w.2.2 := by rw [← hvv]; rfl
          have vF : Fx fE w v := by rw [← hvv]; exact ((Fx_A (k := 86) rfl).tr (Fx_I (k := 87) rfl)).tr (Fx_I (k := 90) rfl)
          have vt : ∀ k, k ≤ 11 → v.1 k = w.1 k ∧ v.2.1 k = w.2.1 k := fun k hk => ⟨vs k (by omega) (by omega), vg k (by omega)⟩
          have vE : ExtT w v := ext_E vt vL vF
          have vT : TI v := TI_eq e1 vt vL
          have v59 := vs 59 (by decide) (by decide)
          have v60 := vs 60 (by decide) (by decide)
          clear hvv
          refine hq (20 * (w.1 59 - w.1 60) + q' + 4 + 2 * m).toNat v (by omega) ⟨k + 1, V + 1, q, c, by rw [vs 85 (by decide) (by decide)]; omega, hk, v87, ⟨vT, e2.tr hu vE, e3.tr vF, by omega, by omega, by rw [vs 8 (by decide) (by decide), v60]; exact e6, by rw [vs 6 (by decide) (by decide), v60]; exact e7, by rw [vs 11 (by decide) (by decide)]; exact e8, by rw [vs 88 (by decide) (by decide), v60]; exact e9, by rw [vs 88 (by decide) (by decide)]; exact e10, fun i i0 i1 => ?_⟩, hc, Or.inr (Or.inr ⟨v90, k, V', q', c', n, m, rfl, f1.ext e1 vT vE vF (by rw [vg 79 (by decide)]) (by rw [vg 80 (by decide)]) (by rw [vg 81 (by decide)]) (by rw [vg 82 (by decide)]) (by rw [vg 83 (by decide)]), f2.ext e1 vT vE vF (fun i hi => ⟨by rw [vg 79 (by decide)], by rw [vg 80 (by decide)], by rw [vg 81 (by decide)], by rw [vg 82 (by decide)], by rw [vg 83 (by decide)], by rw [vg 84 (by decide)]⟩), by rw [vg 84 (by decide)]; exact hz, by omega, by omega, by omega, fun z => ?_, by omega⟩)⟩
          · rw [v86, vs 8 (by decide) (by decide)]
            split
            · exact ⟨h91, h91b⟩
            · exact e11 i i0 (by omega)
          · rw [vg 79 (by decide), vg 0 (by decide)] at z
            exact absurd z hif
      · -- if: the second or the third term
        have hif : w.2.1 0 (w.2.1 79 (k : Int)) = 3 := by omega
        rcases f8 with ⟨_, f9⟩ | ⟨z, _⟩
        · obtain ⟨n', g1, g2, g3, g4⟩ := f1.2.2.1.args e1 ⟨f1.1, f1.2.1⟩
          have en : n' = 3 := by
            rw [hif] at g2
            exact g2.fun (Ar_base (by decide) (by decide) (Or.inl ⟨rfl, rfl⟩))
          subst en
          refine zt_1 (bd_i (by omega) (by omega) (sw_i (bd_i (by omega) (by omega) (rd_i fun _ => rd_i fun _ => ?_))))
          generalize hvv : iA w 84 (k : Int) 1 = v
          have v84 : ∀ i, v.2.1 84 i = if i = (k : Int) then 1 else w.2.1 84 i := fun i => by rw [← hvv]; rfl
          have vg : ∀ g, g ≠ 84 → v.2.1 g = w.2.1 g := fun g hg => by rw [← hvv]; exact if_neg hg
          have vs : v.1 = w.1 := by rw [← hvv]; rfl
          have vL : v.2.2 = w.2.2 := by rw [← hvv]; rfl
          have vF : Fx fE w v := by rw [← hvv]; exact Fx_A (k := 84) rfl
          have vt : ∀ k, k ≤ 11 → v.1 k = w.1 k ∧ v.2.1 k = w.2.1 k := fun k hk => ⟨by rw [vs], vg k (by omega)⟩
          have vE : ExtT w v := ext_E vt vL vF
          have vT : TI v := TI_eq e1 vt vL
          clear hvv
          have hEv : Ev v (k + 1) V (q' + 1) c' := Ev.end_ e1 vT vE vF f1 f2 f3 f4 (vg 79 (by decide)) (vg 80 (by decide)) (vg 81 (by decide)) (vg 82 (by decide)) (vg 83 (by decide)) v84
          have hE0 : E0 u v c' := ⟨vT, e2.tr hu vE, e3.tr vF, by rw [vs]; exact e4, by rw [vs]; exact e5, by rw [vs]; omega, by rw [vs]; omega, by rw [vs]; exact e8, by rw [vs]; exact e9, by rw [vs]; exact e10, by rw [vs, vg 86 (by decide)]; exact e11⟩
          have k81 : ∀ i : Nat, 1 ≤ i → i < 3 → w_takeValue_81 Q lim k (v.2.1 79 (k : Int)) ((i + 1 : Nat) : Int) v := by
            intro i i1 i3
            unfold w_takeValue_81
            rw [vg 79 (by decide)]
            refine s_term vT ht.1 (by rw [vs]; exact ht.2) (by omega) (by omega) ?_
            have hel : el v (w.2.1 79 (k : Int)) (((i + 1 : Nat) : Int)).toNat = el w (w.2.1 1 (w.2.1 79 (k : Int))) i := by
              rw [show (((i + 1 : Nat) : Int)).toNat = i + 1 from by omega]
              show el v (v.2.1 1 (w.2.1 79 (k : Int))) i = _
              rw [vg 1 (by decide)]
              exact el_ext vE.1 g3 i i3
            rw [hel]
            have hcx := g4.el i i3
            refine bd_i (by omega) (by omega) (rd_i fun _ => bd_i (by omega) (by omega) (rd_i fun _ => ?_))
            rw [vg 82 (by decide), vg 83 (by decide)]
            refine g_beginEval (k := k + 1) hu (by rw [vs]; omega) hk (by rw [vs]; exact h87) (by rw [vs]; exact h89) hE0 (by omega) (hD.ext vE.1 (SameF.E vF)) ((hcx.ext e1 vT vE vF rfl rfl rfl).mono f3) hEv (by rw [vs]; exact hf) (by rw [vs]; exact hst) fun M z hz _ hM => hq M z ?_ hz
            rw [vs] at hM
            omega
          refine br_i (fun _ => k81 1 (by decide) (by decide)) (fun _ => k81 2 (by decide) (by decide))
        · exact absurd hif z
  · -- the call has ended
    rcases f5 with ⟨_, f6, f7⟩ | ⟨z, _⟩
    · refine rd_i fun _ => ov_i (by omega) (by omega) (sw_i (bd_i (by omega) (by omega) (rd_i fun _ => sw_i ?_)))
      generalize hvv : iI (iI w 85 _) 87 _ = v
      have v2 : v.2 = w.2 := by rw [← hvv]; rfl
      have vs : ∀ g, g ≠ 85 → g ≠ 87 → v.1 g = w.1 g := fun g g1 g2 => by rw [← hvv]; exact (if_neg g2).trans (if_neg g1)
      have v85 : v.1 85 = k := by rw [← hvv]; show w.1 85 - 1 = _; omega
      have v87 : v.1 87 = V' := by rw [← hvv]; exact f1.2.2.2.2.2.2.2.2.1
      have vF : Fx fE w v := by rw [← hvv]; exact (Fx_I (k := 85) rfl).tr (Fx_I (k := 87) rfl)
      have vt : ∀ k, k ≤ 11 → v.1 k = w.1 k ∧ v.2.1 k = w.2.1 k := fun k hk => ⟨vs k (by omega) (by omega), by rw [v2]⟩
      have vE : ExtT w v := ext_E vt (by rw [v2]) vF
      have vT : TI v := TI_eq e1 vt (by rw [v2])
      clear hvv
      have v59 := vs 59 (by decide) (by decide)
      have v60 := vs 60 (by decide) (by decide)
      refine hq (20 * (w.1 59 - w.1 60) + q' + 1).toNat v (by omega) ⟨k, V', q', c, v85, by omega, v87, ⟨vT, e2.tr hu vE, e3.tr vF, by omega, by omega, by rw [vs 8 (by decide) (by decide), v60]; exact e6, by rw [vs 6 (by decide) (by decide), v60]; exact e7, by rw [vs 11 (by decide) (by decide)]; exact e8, by rw [vs 88 (by decide) (by decide), v60]; exact e9, by rw [vs 88 (by decide) (by decide)]; exact e10, fun i i0 i1 => by rw [v2, vs 8 (by decide) (by decide)]; exact e11 i i0 (by omega)⟩, hc, Or.inr (Or.inl ⟨by rw [vs 90 (by decide) (by decide)]; exact h90, by rw [vs 91 (by decide) (by decide)]; exact h91, by rw [vs 91 (by decide) (by decide), vs 8 (by decide) (by decide)]; exact h91b, by rw [f7]; exact f2.ext e1 vT vE vF (fun i hi => by rw [v2]; exact ⟨rfl, rfl, rfl, rfl, rfl, rfl⟩), by omega⟩)⟩
    · exact absurd z hz
theorem g_goOn {u w : iST} {lim : Int} {k : Nat} {V V' q' c c' : Int} {n m : Nat} {N : Nat} {Q : iST → Prop} (hu : TI u) (h85 : w.1 85 = k + 1) (hk : k + 1 ≤ 300) (h87 : w.1 87 = V) (h89 : w.1 89 = 0) (hE : E0 u w c) (hc : 0 ≤ c) (hD : DI w) (hB : DB w) (f1 : EF w k n m V') (f2 : Ev w k V' q' c') (h84 : w.2.1 84 k = 0) (hV : V + m = V' + n) (hV2 : V' ≤ V) (hcc : c = c' + 1) (hif : w.2.1 0 (w.2.1 79 k) = 3 → V = V') (hN : (N : Int) = 20 * (w.1 59 - w.1 60) + q' + 4 + 2 * m) (hf : w.1 59 ≤ 1000) (hst : 0 ≤ w.1 60) (h8b : w.1 8 < 452000) (h6b : w.1 6 < 40000) (hq : ∀ (M : Nat) v, M < N → EI u M v → Q v) : w_goOn lim Q w := by
  have hE' := hE
  obtain ⟨e1, e2, e3, e4, e5, e6, e7, e8, e9, e10, e11⟩ := hE'
  have h8 := e1.2.1
  have hf2r := f2.r
  obtain ⟨a1, a2, a3, a4, a5, a6, a7, a8, a9, a10, a11⟩ := f1
  have ht := a3.it.r
  have ek : w.1 85 - 1 = k := by omega
  have hn6 : V ≤ V' + 6 := by omega
  unfold w_goOn
  refine rd_i fun _ => ov_i (by omega) (by omega) ?_
  rw [ek]
  refine bd_i (by omega) (by omega) (rd_i fun _ => br_i (fun hz => ?_) (fun hz => ?_))
  · have em : m = 0 := by
      cases m with
      | zero => rfl
      | succ m' =>
        have := a7.2.2.1
        rw [hz] at this
        have := e1.2.2.2.2.2.2.2.2.1 0 (by decide) (by decide)
        omega
    subst em
    refine bd_i (by omega) (by omega) (rd_i fun _ => bd_i ht.1 (by omega) (rd_i fun _ => s_functionOf hD.1 hD.2.1 fun f hfn => zt_1 (bd_i (by omega) (by omega) (sw_i ?_))))
    generalize hvv : iA w 84 (k : Int) 1 = v
    have v84 : ∀ i, v.2.1 84 i = if i = (k : Int) then 1 else w.2.1 84 i := fun i => by rw [← hvv]; rfl
    have vg : ∀ g, g ≠ 84 → v.2.1 g = w.2.1 g := fun g hg => by rw [← hvv]; exact if_neg hg
    have vs : v.1 = w.1 := by rw [← hvv]; rfl
    have vL : v.2.2 = w.2.2 := by rw [← hvv]; rfl
    have vF : Fx fE w v := by rw [← hvv]; exact Fx_A (k := 84) rfl
    have vt : ∀ k, k ≤ 11 → v.1 k = w.1 k ∧ v.2.1 k = w.2.1 k := fun k hk => ⟨by rw [vs], vg k (by omega)⟩
    have vE : ExtT w v := ext_E vt vL vF
    have vT : TI v := TI_eq e1 vt vL
    clear hvv
    have hfr := hfn.r hD a1
    have hEv : Ev v (k + 1) V (q' + 1) c' := Ev.end_ e1 vT vE vF ⟨a1, a2, a3, a4, a5, a6, a7, a8, a9, a10, a11⟩ f2 hV2 hn6 (vg 79 (by decide)) (vg 80 (by decide)) (vg 81 (by decide)) (vg 82 (by decide)) (vg 83 (by decide)) v84
    refine br_i (fun hlt => ?_) (fun hge => ?_)
    · refine bd_i (by omega) (by omega) (rd_i fun _ => ?_)
      rw [vg 81 (by decide), a9]
      have hfl : 4 ≤ f → f ≤ 16 → w.2.1 0 (w.2.1 79 (k : Int)) = f := fun _ _ => by omega
      have hval : ∀ i, 0 ≤ i → i < V → 0 ≤ v.2.1 86 i ∧ v.2.1 86 i < v.1 8 := by rw [vs, vg 86 (by decide), ← h87]; exact e11
      refine g_basic vT a10 (by omega) (by rw [vs]; exact h8b) (by rw [vs]; exact h6b) (fun x y => ?_) (fun x y => ?_) fun r z hg hr => ?_
      · have hl := hfl x y
        rw [hl] at a4
        have : 1 ≤ n := by
          rcases (show (4 ≤ f ∧ f ≤ 9) ∨ 10 ≤ f by omega) with y1 | y1
          · have := a4.fun (Ar_base (n := 2) (by omega) y (Or.inr (Or.inl ⟨y1.1, y1.2, rfl⟩))); omega
          · have := a4.fun (Ar_base (n := 1) (by omega) y (Or.inr (Or.inr ⟨y1, rfl⟩))); omega
        exact hval V' a10 (by omega)
      · have hl := hfl x (by omega)
        rw [hl] at a4
        have := a4.fun (Ar_base (n := 2) (by omega) (by omega) (Or.inr (Or.inl ⟨x, y, rfl⟩)))
        exact hval (V' + 1) (by omega) (by omega)
      · obtain ⟨g1, g2, g3, g4, g5, g6, g7⟩ := hg
        have zE : ExtT v z := Grow.extT ⟨g1, g2, g3, g4, g5, g6, g7⟩
        have zF : Fx fE v z := fE_T g4
        refine sw_i (zt_1 (sw_i (rd_i fun _ => ?_)))
        have key : ∀ y : iST, y.2 = z.2 → (∀ g, g ≠ 89 → g ≠ 90 → g ≠ 91 → y.1 g = z.1 g) → y.1 90 ≠ 0 → y.1 91 = r → (y.1 89 ≠ 0 ∨ (0 ≤ r ∧ r < z.1 8)) → Q y := by
          intro y y2 y1 y90 y91 yr
          have yt : ∀ k, k ≤ 11 → y.1 k = z.1 k ∧ y.2.1 k = z.2.1 k := fun k hk => ⟨y1 k (by omega) (by omega) (by omega), by rw [y2]⟩
          have yF : Fx fE z y := fun k hk => by
            have hk2 : k ≠ 89 ∧ k ≠ 90 ∧ k ≠ 91 := by simp [fE] at hk; omega
            exact ⟨y1 k hk2.1 hk2.2.1 hk2.2.2, by rw [y2]⟩
          have yE : ExtT z y := ext_E yt (by rw [y2]) yF
          have yT : TI y := TI_eq g1 yt (by rw [y2])
          have allE : ExtT v y := zE.tr vT yE
          have allF : Fx fE v y := zF.tr yF
          have za : ∀ g, 12 ≤ g → y.2.1 g = v.2.1 g := fun g hg => by rw [y2]; exact (g4 g (by simp [fT]; omega)).2
          have zs : ∀ g, 12 ≤ g → z.1 g = v.1 g := fun g hg => (g4 g (by simp [fT]; omega)).1
          have y8 : y.1 8 = z.1 8 := y1 8 (by decide) (by decide) (by decide)
          have y6 : y.1 6 = z.1 6 := y1 6 (by decide) (by decide) (by decide)
          have y59 : y.1 59 = w.1 59 := by rw [y1 59 (by decide) (by decide) (by decide), zs 59 (by decide), vs]
          have y60 : y.1 60 = w.1 60 := by rw [y1 60 (by decide) (by decide) (by decide), zs 60 (by decide), vs]
          have y88 : y.1 88 = w.1 88 := by rw [y1 88 (by decide) (by decide) (by decide), zs 88 (by decide), vs]
          have y87 : y.1 87 = V := by rw [y1 87 (by decide) (by decide) (by decide), zs 87 (by decide), vs]; exact h87
          have y85 : y.1 85 = k + 1 := by rw [y1 85 (by decide) (by decide) (by decide), zs 85 (by decide), vs]; omega
          have g8' : z.1 8 ≤ w.1 8 + 1 := by rw [← vs]; exact g5
          have g6' : z.1 6 ≤ w.1 6 + 1 := by rw [← vs]; exact g6
          have g8b : w.1 8 ≤ z.1 8 := by rw [← vs]; exact g2.1.1
          have hE0 : E0 u y c' := ⟨yT, (e2.tr hu vE).tr hu allE, (e3.tr vF).tr allF, by omega, by omega, by omega, by omega, by rw [y1 11 (by decide) (by decide) (by decide), g7, vs]; exact e8, by omega, by omega, fun i i0 i1 => by rw [za 86 (by decide), y8]; have := hval i i0 (by omega); rw [vs] at this; omega⟩
          refine hq (20 * (w.1 59 - w.1 60) + q' + 2).toNat y (by omega) ⟨k + 1, V, q' + 1, c', by rw [y85]; omega, hk, y87, hE0, by omega, ?_⟩
          rcases yr with yr | yr
          · exact Or.inl yr
          · refine Or.inr (Or.inl ⟨y90, by rw [y91]; exact yr.1, by rw [y91, y8]; exact yr.2, hEv.ext vT yT allE allF (fun i hi => ⟨by rw [za 79 (by decide)], by rw [za 80 (by decide)], by rw [za 81 (by decide)], by rw [za 82 (by decide)], by rw [za 83 (by decide)], by rw [za 84 (by decide)]⟩), by omega⟩)
        refine br_i (fun hne => ?_) (fun he => sw_i ?_)
        · have hne : r ≠ -1 := hne
          exact key _ rfl (fun g g1 g2 g3 => (if_neg g2).trans (if_neg g3)) (show (1 : Int) ≠ 0 by decide) rfl (Or.inr (hr.resolve_left hne))
        · exact key _ rfl (fun g g1 g2 g3 => (if_neg g1).trans ((if_neg g2).trans (if_neg g3))) (show (1 : Int) ≠ 0 by decide) rfl (Or.inl (show (3 : Int) ≠ 0 by decide))
    · have hf3 : 100 ≤ f ∧ f < 100 + w.1 35 ∧ w.2.1 36 (f - 100) = w.2.1 0 (w.2.1 79 (k : Int)) := by omega
      have hd40 := hD.2.1
      obtain ⟨b1, b2⟩ := hB (f - 100) (by omega) (by omega)
      have hmany : w.2.1 37 (f - 100) = n := by
        have h1 : Ar w (w.2.1 0 (w.2.1 79 (k : Int))) (w.2.1 37 (f - 100)).toNat := by
          refine ⟨f, hfn, by omega, ?_⟩
          unfold Many
          rw [if_neg (by omega), if_neg (by omega), if_neg (by omega), if_neg (by omega)]
          have := hD.2.2.1 (f - 100) (by omega) (by omega)
          omega
        have := h1.fun a4
        have := hD.2.2.1 (f - 100) (by omega) (by omega)
        omega
      refine ov_i (by omega) (by omega) (bd_i (by omega) (by omega) (rd_i fun _ => ov_i (by omega) (by omega) (bd_i (by omega) (by omega) (rd_i fun _ => ?_))))
      rw [vg 39 (by decide), vg 81 (by decide), a9]
      have hcx : Ctx w (f - 100) V' V (w.2.1 39 (f - 100)) := ⟨by omega, by omega, a10, Or.inr ⟨by omega, b1, by omega⟩⟩
      have hE0 : E0 u v c' := ⟨vT, e2.tr hu vE, e3.tr vF, by rw [vs]; exact e4, by rw [vs]; exact e5, by rw [vs]; omega, by rw [vs]; omega, by rw [vs]; exact e8, by rw [vs]; exact e9, by rw [vs]; exact e10, by rw [vs, vg 86 (by decide)]; exact e11⟩
      refine g_beginEval (k := k + 1) hu (by rw [vs]; omega) hk (by rw [vs]; exact h87) (by rw [vs]; exact h89) hE0 (by omega) (hD.ext vE.1 (SameF.E vF)) (hcx.ext e1 vT vE vF rfl rfl rfl) hEv (by rw [vs]; exact hf) (by rw [vs]; exact hst) fun M z hz2 _ hM => hq M z ?_ hz2
      rw [vs] at hM
      omega
  · obtain ⟨m', rfl⟩ : ∃ m', m = m' + 1 := by
      cases m with
      | zero => exact absurd a7 hz
      | succ m' => exact ⟨m', rfl⟩
    obtain ⟨l1, l2, l3, l4⟩ := a7
    obtain ⟨b1, b2⟩ := a8
    refine bd_i (by omega) (by omega) (rd_i fun _ => bd_i l1 (by omega) (rd_i fun _ => bd_i (by omega) (by omega) (rd_i fun _ => bd_i l1 (by omega) (rd_i fun _ => bd_i (by omega) (by omega) (sw_i ?_)))))
    generalize hrr : w.2.1 80 (k : Int) = rr at *
    generalize hvv : iA w 80 (k : Int) (w.2.1 1 rr) = v
    have v80 : ∀ i, v.2.1 80 i = if i = (k : Int) then w.2.1 1 rr else w.2.1 80 i := fun i => by rw [← hvv]; rfl
    have vg : ∀ g, g ≠ 80 → v.2.1 g = w.2.1 g := fun g hg => by rw [← hvv]; exact if_neg hg
    have vs : v.1 = w.1 := by rw [← hvv]; rfl
    have vL : v.2.2 = w.2.2 := by rw [← hvv]; rfl
    have vF : Fx fE w v := by rw [← hvv]; exact Fx_A (k := 80) rfl
    have vt : ∀ k, k ≤ 11 → v.1 k = w.1 k ∧ v.2.1 k = w.2.1 k := fun k hk => ⟨by rw [vs], vg k (by omega)⟩
    have vE : ExtT w v := ext_E vt vL vF
    have vT : TI v := TI_eq e1 vt vL
    clear hvv
    refine bd_i (by omega) (by omega) (rd_i fun _ => bd_i (by omega) (by omega) (rd_i fun _ => ?_))
    rw [vg 82 (by decide), vg 83 (by decide)]
    have hE0 : E0 u v c := ⟨vT, e2.tr hu vE, e3.tr vF, by rw [vs]; exact e4, by rw [vs]; exact e5, by rw [vs]; exact e6, by rw [vs]; exact e7, by rw [vs]; exact e8, by rw [vs]; exact e9, by rw [vs]; exact e10, by rw [vs, vg 86 (by decide)]; exact e11⟩
    have hEv : Ev v (k + 1) V (q' + 4 + 2 * m') c := by
      refine ⟨V', q', c', n, m', ⟨?_, ?_, ?_, ?_, a5, by omega, ?_, ?_, ?_, a10, a11⟩, f2.ext e1 vT vE vF (fun i hi => ⟨by rw [vg 79 (by decide)], by rw [v80, if_neg (by omega)], by rw [vg 81 (by decide)], by rw [vg 82 (by decide)], by rw [vg 83 (by decide)], by rw [vg 84 (by decide)]⟩), hV2, hn6, Or.inr ⟨by rw [vg 84 (by decide)]; exact h84, rfl, hcc, ?_⟩⟩
      · rw [vg 79 (by decide), vg 0 (by decide)]; exact a1
      · rw [vg 79 (by decide), vg 0 (by decide)]; exact a2
      · rw [vg 79 (by decide), vg 82 (by decide), vg 83 (by decide)]; exact a3.ext e1 vT vE vF rfl rfl rfl
      · rw [vg 79 (by decide), vg 0 (by decide)]; exact vE.2.2 _ _ a1 a4
      · rw [v80, if_pos rfl]; exact l4.ext e1 vE.1
      · rw [v80, if_pos rfl, vg 82 (by decide), vg 83 (by decide)]; exact (b2.ext vE.1 l4).imp (fun y hy => hy.ext e1 vT vE vF rfl rfl rfl)
      · rw [vg 81 (by decide)]; exact a9
      · rw [vg 79 (by decide), vg 0 (by decide)]
        by_cases h3 : w.2.1 0 (w.2.1 79 (k : Int)) = 3
        · exact Or.inl ⟨h3, hif h3⟩
        · exact Or.inr ⟨h3, by omega⟩
    refine g_beginEval (k := k + 1) hu (by rw [vs]; omega) hk (by rw [vs]; exact h87) (by rw [vs]; exact h89) hE0 hc (hD.ext vE.1 (SameF.E vF)) ((b1.ext e1 vT vE vF rfl rfl rfl).mono hV2) hEv (by rw [vs]; exact hf) (by rw [vs]; exact hst) fun M z hz2 _ hM => hq M z ?_ hz2
    rw [vs] at hM
    omega
/-- a term without variables is evaluated: at most one object and one natural a STEP -/
theorem g_evaluated {o lim : Int} {Q : Int → iST → Prop} {u : iST} (hT : TI u) (hD : DI u) (hB : DB u) (ho : TV u (fun _ => False) o) (hf : u.1 59 ≤ 1000) (hst : 0 ≤ u.1 60) (hsf : u.1 60 ≤ u.1 59) (h8 : u.1 8 + (u.1 59 - u.1 60) < 452000) (h6 : u.1 6 + (u.1 59 - u.1 60) < 40000) (hq : ∀ r v, E0 u v 0 → (v.1 89 = 0 → 0 ≤ r ∧ r < v.1 8) → (v.1 89 ≠ 0 → r = -1) → Q r v) : w_evaluated o lim Q u := by
  unfold w_evaluated
  refine sw_i (sw_i (sw_i (sw_i ?_)))
  generalize hw : iI (iI (iI (iI u 85 0) 87 0) 88 100) 89 0 = w
  have w2 : w.2 = u.2 := by rw [← hw]; rfl
  have ws : ∀ g, g ≠ 85 → g ≠ 87 → g ≠ 88 → g ≠ 89 → w.1 g = u.1 g := fun g g1 g2 g3 g4 => by rw [← hw]; exact (if_neg g4).trans ((if_neg g3).trans ((if_neg g2).trans (if_neg g1)))
  have wF : Fx fE u w := by rw [← hw]; exact (((Fx_I (k := 85) rfl).tr (Fx_I (k := 87) rfl)).tr (Fx_I (k := 88) rfl)).tr (Fx_I (k := 89) rfl)
  have wt : ∀ k, k ≤ 11 → w.1 k = u.1 k ∧ w.2.1 k = u.2.1 k := fun k hk => ⟨ws k (by omega) (by omega) (by omega) (by omega), by rw [w2]⟩
  have wE : ExtT u w := ext_E wt (by rw [w2]) wF
  have wT : TI w := TI_eq hT wt (by rw [w2])
  have w85 : w.1 85 = 0 := by rw [← hw]; rfl
  have w87 : w.1 87 = 0 := by rw [← hw]; rfl
  have w88 : w.1 88 = 100 := by rw [← hw]; rfl
  have w89 : w.1 89 = 0 := by rw [← hw]; rfl
  have w59 := ws 59 (by decide) (by decide) (by decide) (by decide)
  have w60 := ws 60 (by decide) (by decide) (by decide) (by decide)
  clear hw
  have hE0 : E0 u w 0 := ⟨wT, wE, wF, by omega, by omega, by rw [(wt 8 (by decide)).1]; omega, by rw [(wt 6 (by decide)).1]; omega, (wt 11 (by decide)).1, by omega, by omega, fun i i0 i1 => by omega⟩
  have main : ∀ (N : Nat) (v : iST), EI u N v → w_evaluated_29 Q lim v := by
    intro N v hv
    unfold w_evaluated_29
    refine lr1 (B := fun R x2 u => w_evaluated_29b R Q x2 u) (fun N x2 v => x2 = lim ∧ EI u N v) ?_ (n := N) ⟨rfl, hv⟩
    intro N x2 v hI R ih
    obtain ⟨rfl, k, V, q, c, p1, p2, p3, p4, p5, p6⟩ := hI
    have p4' := p4
    obtain ⟨e1, e2, e3, e4, e5, e6, e7, e8, e9, e10, e11⟩ := p4'
    have E00 : E0 u v 0 := ⟨e1, e2, e3, e4, e5, by omega, by omega, e8, e9, e10, e11⟩
    have v59 : v.1 59 = u.1 59 := fx_s e3 59 rfl
    have vD : DI v := hD.ext e2.1 (SameF.E e3)
    have vB : DB v := hB.ext hT e1 e2 e3 rfl rfl rfl rfl
    unfold w_evaluated_29b
    refine rd_i fun _ => br_i (fun hw => ?_) (fun hw => ?_)
    · unfold w_evaluated_73
      exact rd_i fun _ => br_y hw (hq (-1) v E00 (fun z => absurd z hw) (fun _ => rfl))
    · have hw0 : v.1 89 = 0 := by omega
      rcases p6 with p6 | ⟨q1, q2, q3, q4, q5⟩ | ⟨q1, k', V', q', c', n, m, q2, q3, q4, q5, q6, q7, q8, q9, q10⟩
      · exact absurd p6 hw
      · refine rz_i fun _ => br_n q1 (rd_i fun _ => br_i (fun hk0 => ?_) (fun hk0 => ?_))
        · unfold w_evaluated_73
          exact rd_i fun _ => br_n (by omega) (rd_i fun _ => hq _ v E00 (fun _ => ⟨q2, q3⟩) (fun z => absurd hw0 z))
        · unfold w_evaluated_50
          obtain ⟨k1, rfl⟩ : ∃ k1, k = k1 + 1 := ⟨k - 1, by omega⟩
          exact rz_i fun _ => br_n q1 (g_takeValue hT (by omega) p2 p3 hw0 p4 p5 vD q1 q2 q3 q4 q5 (by omega) (by omega) fun M z hM hz => ih M _ _ hM ⟨rfl, hz⟩)
      · refine rz_i fun _ => br_y q1 ?_
        unfold w_evaluated_50
        exact rz_i fun _ => br_y q1 (g_goOn hT (by omega) (by omega) p3 hw0 p4 p5 vD vB q3 q4 q5 q6 q7 q8 q9 q10 (by omega) (by omega) (by omega) (by omega) fun M z hM hz => ih M _ _ hM ⟨rfl, hz⟩)
  refine g_beginEval (k := 0) (V := 0) (q := 0) (c := 0) hT w85 (by decide) w87 w89 hE0 (Int.le_refl _) (hD.ext wE.1 (SameF.E wF)) ⟨Int.le_refl _, by decide, Int.le_refl _, Or.inl (ho.ext hT wT wE)⟩ ⟨rfl, rfl, rfl⟩ (by omega) (by omega) fun N v hv _ _ => main N v hv
