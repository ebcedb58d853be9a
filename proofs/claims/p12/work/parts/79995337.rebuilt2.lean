/-! the class: rebuilt -/
abbrev rbR_r : List Nat := [27, 28, 29, 30, 37, 38, 39, 40]
/-- the calls that rebuilt is in; F: what is read can be evaluated -/
def RKc_r (F : Prop) (w : iST) : Nat → Int → Prop
  | 0, h => h = 0
  | d + 1, h => ∃ b, w.2.1 39 d = b ∧ 0 ≤ b ∧ b ≤ h ∧ h ≤ 768 ∧ b ≤ 767 ∧ RKc_r F w d b ∧ w.2.1 37 d < w.1 29 ∧ w.2.1 38 d < w.1 29 ∧ (F → 0 ≤ w.2.1 37 d ∧ ∃ n r : Nat, LnP_r w r (w.2.1 38 d) ∧ WA_r (w.2.1 37 d) n ∧ (h - b) + r + 1 = n)
def T0_r (F : Prop) (w : iST) : Nat → Int → Prop
  | 0, h => h = 1
  | d + 1, h => ∃ b, w.2.1 39 d = b ∧ 0 ≤ b ∧ b ≤ h ∧ h ≤ 768 ∧ b ≤ 767 ∧ RKc_r F w d b ∧ w.2.1 37 d < w.1 29 ∧ w.2.1 38 d < w.1 29 ∧ (F → 0 ≤ w.2.1 37 d ∧ ∃ n r : Nat, LnP_r w r (w.2.1 38 d) ∧ WA_r (w.2.1 37 d) n ∧ (h - b) + r = n)
theorem RKc_r.r [DecidableEq Ob] {F : Prop} {w : iST} : ∀ {d : Nat} {h : Int}, RKc_r F w d h → 0 ≤ h ∧ h ≤ 768
  | 0, h, q => by have q : h = 0 := q; omega
  | _ + 1, h, q => by obtain ⟨b, _, a, c, e, _⟩ := q; omega
theorem RKc_r.del [DecidableEq Ob] {F : Prop} {w : iST} : ∀ {d : Nat} {h : Int}, RKc_r F w d h → h ≤ 767 → T0_r F w d (h + 1)
  | 0, h, q, _ => by have q : h = 0 := q; show h + 1 = 1; omega
  | _ + 1, h, q, hl => by
    obtain ⟨b, q1, q2, q3, q4, q5, q6, q7, q8, q9⟩ := q
    refine ⟨b, q1, q2, by omega, by omega, q5, q6, q7, q8, fun f => ?_⟩
    obtain ⟨z, n, r, a, c, e⟩ := q9 f
    exact ⟨z, n, r, a, c, by omega⟩
theorem RKc_r.ext [DecidableEq Ob] {F F' : Prop} {u v : iST} (hT : RT_r u) (hC : Ce_r u v) (hF : F' → F) : ∀ {d : Nat} {h : Int}, (∀ i : Nat, i < d → v.2.1 37 i = u.2.1 37 i ∧ v.2.1 38 i = u.2.1 38 i ∧ v.2.1 39 i = u.2.1 39 i) → RKc_r F u d h → RKc_r F' v d h
  | 0, _, _, q => q
  | d + 1, h, he, q => by
    obtain ⟨b, q1, q2, q3, q4, q5, q6, q7, q8, q9⟩ := q
    obtain ⟨e1, e2, e3⟩ := he d (by omega)
    have hc := hC.1
    refine ⟨b, by rw [e3]; exact q1, q2, q3, q4, q5, RKc_r.ext hT hC hF (fun i hi => he i (by omega)) q6, by rw [e1]; omega, by rw [e2]; omega, fun f => ?_⟩
    obtain ⟨z, n, r, a, c, e⟩ := q9 (hF f)
    rw [e1, e2]
    exact ⟨z, n, r, a.ext hT hC q8, c, e⟩
/-- the values -/
def VK_r (F : Prop) (w : iST) (h : Int) : Prop := ∀ i, 0 ≤ i → i < h → w.2.1 40 i < w.1 29 ∧ (F → WF_r w (w.2.1 40 i) ∧ 0 ≤ w.2.1 40 i)
theorem VK_r.ext [DecidableEq Ob] {F F' : Prop} {u v : iST} (hT : RT_r u) (hC : Ce_r u v) (hF : F' → F) {h h' : Int} (hh : h' ≤ h) (he : ∀ i, i < h' → v.2.1 40 i = u.2.1 40 i) (q : VK_r F u h) : VK_r F' v h' := fun i i0 i1 => by
  obtain ⟨a, b⟩ := q i i0 (by omega)
  rw [he i i1]
  exact ⟨by have := hC.1; omega, fun f => ⟨(b (hF f)).1.ext hT hC, (b (hF f)).2⟩⟩
theorem VK_r.set [DecidableEq Ob] {F : Prop} {w v : iST} {h x : Int} (q : VK_r F w h) (hT : RT_r w) (hC : Ce_r w v) (he : ∀ i, v.2.1 40 i = if i = h then x else w.2.1 40 i) (hx : x < v.1 29) (hw : F → WF_r v x ∧ 0 ≤ x) : VK_r F v (h + 1) := fun i i0 i1 => by
  rw [he]
  by_cases e : i = h
  · rw [if_pos e]; exact ⟨hx, hw⟩
  · rw [if_neg e]
    obtain ⟨a, b⟩ := q i i0 (by omega)
    exact ⟨by have := hC.1; omega, fun f => ⟨(b f).1.ext hT hC, (b f).2⟩⟩
theorem j_rebuilt_r [DecidableEq Ob] {u : iST} {a0 a1 : Int} {Q : Int → iST → Prop} (hT : RT_r u) (hB : BN_r u) (ha : a0 < u.1 29) (h0 : a1 = 0 → 0 ≤ a0) (h37 : 16 < u.1 37 ∨ u.1 37 = -1) (h38 : -1 ≤ u.1 38 ∧ u.1 38 ≤ 6) (hf : a1 = 1 → BV_r u) (h39 : 0 ≤ u.1 39 ∧ u.1 39 ≤ 256) (h41 : a1 = 2 → u.1 41 < u.1 29) (hq : ∀ t v, RG_r mS_r rbR_r u v → t < v.1 29 → (a1 = 0 → v.1 32 = 0 → t ≠ -1 → WF_r v t ∧ 0 ≤ t) → Q t v) : v_10_rebuilt a0 a1 Q u := by
  have h44 := hT.1.1
  have none : ∀ v, RG_r mS_r rbR_r u v → Q (-1) v := fun v hv => hq (-1) v hv (by have := hv.1.1.1; omega) (fun _ _ z => absurd rfl z)
  unfold v_10_rebuilt v_10_rebuilt_11
  refine lf5 (B := fun R y2 y3 y4 y5 y6 u => v_10_rebuilt_11b R Q y2 y3 y4 y5 y6 u) (fun y2 y3 y4 y5 y6 w => a1 = y2 ∧ 0 ≤ y6 ∧ RG_r mS_r rbR_r u w ∧ y5 < w.1 29 ∧ (a1 = 0 → 0 ≤ y5) ∧ ∃ d : Nat, y3 = d ∧ d ≤ 128 ∧ RKc_r (a1 = 0 ∧ w.1 32 = 0) w d y4 ∧ VK_r (a1 = 0 ∧ w.1 32 = 0) w y4) (fun _ _ _ _ y6 _ => (1000000 - y6).toNat) ?_ ⟨rfl, Int.le_refl _, RG_r.rf hT, ha, h0, 0, rfl, by decide, rfl, fun i i0 i1 => by omega⟩
  intro y2 y3 y4 y5 y6 w hI R ih
  obtain ⟨rfl, t6, hw, t5, t50, d, rfl, d128, hK, hV⟩ := hI
  have wT := hw.1
  have wB : BN_r w := hB.keep (hw.s 0 (by decide)) (hw.s 1 (by decide)) (hw.a 2 (by decide)) (hw.a 0 (by decide))
  have w37 : 16 < w.1 37 ∨ w.1 37 = -1 := by rw [hw.s 37 (by decide)]; exact h37
  have w38 : -1 ≤ w.1 38 ∧ w.1 38 ≤ 6 := by rw [hw.s 38 (by decide)]; exact h38
  have w39 : 0 ≤ w.1 39 ∧ w.1 39 ≤ 256 := by rw [hw.s 39 (by decide)]; exact h39
  -- behind a value or a call that was opened
  have k128 : ∀ (z : iST) (e : Nat) (h : Int), y6 < 1000000 → RG_r mS_r rbR_r u z → e ≤ 128 → T0_r (a1 = 0 ∧ z.1 32 = 0) z e h → VK_r (a1 = 0 ∧ z.1 32 = 0) z h → h ≤ 768 → v_10_rebuilt_128 R Q a1 e h y6 z := by
    intro z e h hy hz he hT0 hVz hh
    unfold v_10_rebuilt_128
    refine lf4 (B := fun R128 y2 y3 y4 y6 u => v_10_rebuilt_128b R R128 Q y2 y3 y4 y6 u) (fun c2 c3 c4 c6 s => a1 = c2 ∧ y6 = c6 ∧ RG_r mS_r rbR_r u s ∧ c4 ≤ 768 ∧ ∃ e : Nat, c3 = e ∧ e ≤ 128 ∧ T0_r (a1 = 0 ∧ s.1 32 = 0) s e c4 ∧ VK_r (a1 = 0 ∧ s.1 32 = 0) s c4) (fun _ c3 _ _ _ => c3.toNat) ?_ ⟨rfl, rfl, hz, hh, e, rfl, he, hT0, hVz⟩
    intro c2 c3 c4 c6 s hI2 R2 ih2
    obtain ⟨rfl, rfl, hs, h4, e, rfl, he, hT0, hVs⟩ := hI2
    have sT := hs.1
    have s44 := sT.1.1
    unfold v_10_rebuilt_128b
    cases e with
    | zero =>
      have e4 : c4 = 1 := hT0
      refine br_y (by omega) ?_
      unfold v_10_rebuilt_242
      have v0 := hVs 0 (Int.le_refl _) (by omega)
      exact br_n (by decide) (bd_i (by decide) (by decide) (rd_i fun _ => hq _ s hs v0.1 (fun a b _ => v0.2 ⟨a, b⟩)))
    | succ e =>
      obtain ⟨b, q1, q2, q3, q4, q5, q6, q7, q8, q9⟩ := hT0
      refine br_n (by omega) ?_
      rw [show ((e + 1 : Nat) : Int) - 1 = e from by omega, show ((e + 1 : Nat) : Int) + (-1) = e from by omega]
      refine ov_i (by omega) (by omega) (bd_i (by omega) (by omega) (rd_i fun _ => j_isPair_r sT (fun hp => br_y (by decide) ?_) (fun hp => br_n (fun z => z rfl) (ov_i (by omega) (by omega) ?_))))
      · -- the next term of the call
        unfold v_10_rebuilt_242
        rw [show ((e + 1 : Nat) : Int) - 1 = e from by omega]
        refine br_y (by omega) (ov_i (by omega) (by omega) (bd_i (by omega) (by omega) (rd_i fun _ => j_left_r sT (ov_i (by omega) (by omega) (ov_i (by omega) (by omega) (bd_i (by omega) (by omega) (rd_i fun _ => j_right_r sT (bd_i (by omega) (by omega) (sw_e_r fun s2 e2 => ov_i (by omega) (by omega) (ih _ _ _ _ _ _ ⟨rfl, by omega, ?_, ?_, ?_, e + 1, rfl, he, ?_, ?_⟩ (by omega)))))))))))
        · rw [e2]; exact hs.A _ _ (by decide) (by decide)
        · rw [e2]; exact (eL_r_r sT _).2.1
        · intro _; exact (eL_r_r sT _).1
        · have s29 : s2.1 = s.1 := by rw [e2]; rfl
          have r38 : ∀ i, s2.2.1 38 i = if i = (e : Int) then eR_r' s (s.2.1 38 e) else s.2.1 38 i := fun i => by rw [e2]; rfl
          have r37 : s2.2.1 37 = s.2.1 37 := by rw [e2]; rfl
          have r39 : s2.2.1 39 = s.2.1 39 := by rw [e2]; rfl
          have rL : s2.2.2 = s.2.2 := by rw [e2]; rfl
          have cC : Ce_r s s2 := ⟨by rw [s29]; exact Int.le_refl _, fun i _ _ => by rw [rL]⟩
          refine ⟨b, by rw [r39]; exact q1, q2, q3, q4, q5, q6.ext sT cC (fun f => by rw [s29] at f; exact f) (fun i hi => ⟨by rw [r37], by rw [r38, if_neg (by omega)], by rw [r39]⟩), by rw [r37, s29]; exact q7, by rw [r38, if_pos rfl, s29]; exact (eR_r_r sT _).2.1, fun f => ?_⟩
          rw [s29] at f
          obtain ⟨z0, n, r, a, c, g⟩ := q9 f
          rw [r37, r38, if_pos rfl]
          cases r with
          | zero => exact absurd hp a
          | succ r => exact ⟨z0, n, r, a.2.ext sT cC (eR_r_r sT _).2.1, c, by omega⟩
        · have s29 : s2.1 = s.1 := by rw [e2]; rfl
          have r40 : s2.2.1 40 = s.2.1 40 := by rw [e2]; rfl
          have rL : s2.2.2 = s.2.2 := by rw [e2]; rfl
          exact hVs.ext sT ⟨by rw [s29]; exact Int.le_refl _, fun i _ _ => by rw [rL]⟩ (fun f => by rw [s29] at f; exact f) (Int.le_refl _) (fun i _ => by rw [r40])
      · -- the call is ended
        unfold v_10_rebuilt_156
        refine lf5 (B := fun R156 y2 y3 y4 y6 y8 u => v_10_rebuilt_156b R R2 R156 Q y2 y3 y4 y6 y8 u) (fun p2 p3 p4 p6 p8 t => a1 = p2 ∧ (e : Int) = p3 ∧ y6 = p6 ∧ RG_r mS_r rbR_r u t ∧ b ≤ p4 ∧ p4 ≤ c4 ∧ 0 ≤ p8 ∧ p8 < t.1 29 ∧ RM_r s t ∧ VK_r (a1 = 0 ∧ t.1 32 = 0) t p4 ∧ (a1 = 0 ∧ t.1 32 = 0 → ∃ j : Nat, p4 + j = c4 ∧ LnP_r t j p8 ∧ AllL_r t (WF_r t) j p8)) (fun _ _ p4 _ _ _ => p4.toNat) ?_ ⟨rfl, rfl, rfl, hs, q3, Int.le_refl _, Int.le_refl _, by omega, RG_r.rf sT, hVs, fun _ => ⟨0, by omega, fun z => by have := (sT.2.1 0 z).2.2; omega, trivial⟩⟩
        intro p2 p3 p4 p6 p8 t hI3 R3 ih3
        obtain ⟨rfl, rfl, rfl, ht, g1, g2, g3, g4, g5, g6, g7⟩ := hI3
        have tT := ht.1
        have t44 := tT.1.1
        have b39 : t.2.1 39 e = b := by rw [g5.a 39 (by decide)]; exact q1
        have n37 : t.2.1 37 e = s.2.1 37 e := by rw [g5.a 37 (by decide)]
        unfold v_10_rebuilt_156b
        refine bd_i (by omega) (by omega) (rd_i fun _ => ?_)
        rw [b39]
        refine br_i (fun hle => bd_i (by omega) (by omega) (rd_i fun _ => ?_)) fun hgt => ov_i (by omega) (by omega) (bd_i (by omega) (by omega) (rd_i fun _ => ?_))
        · have ep : p4 = b := by omega
          subst ep
          rw [n37]
          refine j_pair_r tT (by have := g5.2.1.1; omega) g4 fun x z hz x0 x1 hx => bd_i (by omega) (by omega) (sw_e_r fun z2 e2 => bd_i (by omega) (by omega) (rd_i fun _ => j_isTooBig10_r (by rw [e2]; exact RT_eq_r hz.1 rfl rfl (fun k hk => if_neg (fun e => by rw [e] at hk; revert hk; decide))) fun bb y hbb hy => br_i (fun _ => ov_i (by omega) (by omega) (ih2 _ _ _ _ _ ⟨rfl, rfl, ?_, by omega, e, rfl, by omega, ?_, ?_⟩ (by omega))) fun _ => none y ?_))
          all_goals
            have z2r : RG_r mS_r rbR_r u z2 := by
              rw [e2]
              exact (ht.tr (hz.w (by decide) (by decide))).A _ _ (by decide) (by decide)
            have z2s : z2.1 = z.1 := by rw [e2]; rfl
            have z2L : z2.2.2 = z.2.2 := by rw [e2]; rfl
            have z40 : ∀ i, z2.2.1 40 i = if i = p4 then x else z.2.1 40 i := fun i => by rw [e2]; rfl
            have zo : ∀ k, k ≠ 40 → z2.2.1 k = z.2.1 k := fun k hk => by rw [e2]; exact if_neg hk
            have zC : Ce_r z z2 := ⟨by rw [z2s]; exact Int.le_refl _, fun i _ _ => by rw [z2L]⟩
            have yC : Ce_r z2 y := hy.2.1
            have yr : RG_r mS_r rbR_r u y := z2r.tr (hy.w (by decide) (by decide))
          · exact yr
          · -- the calls below
            have sC : Ce_r s y := (g5.2.1.tr hz.2.1).tr (zC.tr yC)
            have hF : (a1 = 0 ∧ y.1 32 = 0) → (a1 = 0 ∧ s.1 32 = 0) := fun f => ⟨f.1, g5.2.2.2 (hz.2.2.2 (by rw [← z2s]; exact hy.2.2.2 f.2))⟩
            refine (q6.ext sT sC hF (fun i hi => ?_)).del (by omega)
            rw [hy.a 37 (by decide), hy.a 38 (by decide), hy.a 39 (by decide), zo 37 (by decide), zo 38 (by decide), zo 39 (by decide), hz.a 37 (by decide), hz.a 38 (by decide), hz.a 39 (by decide), g5.a 37 (by decide), g5.a 38 (by decide), g5.a 39 (by decide)]
            exact ⟨rfl, rfl, rfl⟩
          · -- the values
            have tC : Ce_r t y := hz.2.1.tr (zC.tr yC)
            have hF : (a1 = 0 ∧ y.1 32 = 0) → (a1 = 0 ∧ z.1 32 = 0) := fun f => ⟨f.1, by rw [← z2s]; exact hy.2.2.2 f.2⟩
            have hFt : (a1 = 0 ∧ z.1 32 = 0) → (a1 = 0 ∧ t.1 32 = 0) := fun f => ⟨f.1, hz.2.2.2 f.2⟩
            intro i i0 i1
            have y40 : y.2.1 40 i = if i = p4 then x else t.2.1 40 i := by
              rw [hy.a 40 (by decide), z40, hz.a 40 (by decide)]
            rw [y40]
            by_cases ei : i = p4
            · rw [if_pos ei]
              refine ⟨by have := (zC.tr yC).1; omega, fun f => ⟨?_, x0⟩⟩
              have f2 := hF f
              obtain ⟨hp2, l1, l2⟩ := hx.resolve_right (fun w => w f2.2)
              obtain ⟨j, j1, j2, j3⟩ := g7 (hFt f2)
              obtain ⟨z0, n, r, k1, k2, k3⟩ := q9 ⟨f.1, g5.2.2.2 (hFt f2).2⟩
              have er : r = 0 := by
                cases r with
                | zero => rfl
                | succ r => exact absurd k1.1 hp
              subst er
              have ej : j = n := by omega
              subst ej
              have hw2 : WF_r z x := by
                refine WF_r.mk ⟨x1, fun _ _ => ⟨j, ?_, ?_, ?_⟩⟩
                · rw [l1 z0]; exact k2
                · rw [l2 g3]; exact j2.ext tT hz.2.1 g4
                · rw [l2 g3]; exact (j3.ext tT hz.2.1 g4).mono (fun q hq => hq.ext tT hz.2.1)
              exact hw2.ext hz.1 (zC.tr yC)
            · rw [if_neg ei]
              obtain ⟨a, c⟩ := g6 i i0 (by omega)
              exact ⟨by have := tC.1; omega, fun f => ⟨(c (hFt (hF f))).1.ext tT tC, (c (hFt (hF f))).2⟩⟩
          · exact yr
        · have vv := g6 (p4 + (-1)) (by omega) (by omega)
          refine j_pair_r tT vv.1 g4 fun x z hz x0 x1 hx => ih3 _ _ _ _ _ _ ⟨rfl, rfl, rfl, ht.tr (hz.w (by decide) (by decide)), by omega, by omega, x0, x1, g5.tr hz, ?_, fun f => ?_⟩ (by omega)
          · exact g6.ext tT hz.2.1 (fun f => ⟨f.1, hz.2.2.2 f.2⟩) (by omega) (fun i _ => by rw [hz.a 40 (by decide)])
          · obtain ⟨hp2, l1, l2⟩ := hx.resolve_right (fun w => w f.2)
            have f2 : a1 = 0 ∧ t.1 32 = 0 := ⟨f.1, hz.2.2.2 f.2⟩
            obtain ⟨j, j1, j2, j3⟩ := g7 f2
            have wv := vv.2 f2
            refine ⟨j + 1, by omega, ⟨hp2, ?_⟩, ?_, ?_⟩
            · rw [l2 g3]; exact j2.ext tT hz.2.1 g4
            · rw [l1 wv.2]; exact wv.1.ext tT hz.2.1
            · rw [l2 g3]; exact (j3.ext tT hz.2.1 g4).mono (fun q hq => hq.ext tT hz.2.1)
  -- what a term becomes
  have k38 : y6 < 1000000 → ∀ r, r < w.1 29 → (a1 = 0 → (r = -1 ∨ (r = -2 ∧ pr_r w y5 ∧ ∃ n : Nat, WA_r (eL_r' w y5) n ∧ LnP_r w n (eR_r' w y5)) ∨ (0 ≤ r ∧ WF_r w r))) → v_10_rebuilt_38 R Q a1 d y4 y5 y6 r w := by
    intro hy r hr hm
    have kr := hK.r
    unfold v_10_rebuilt_38
    refine br_i (fun _ => none w hw) fun hn1 => br_i (fun _ => none w hw) fun hd => br_i (fun hlt => br_i (fun hn2 => bd_i kr.1 hlt (sw_e_r fun z e2 => ov_i (by omega) (by omega) (k128 z d (y4 + 1) hy ?_ d128 ?_ ?_ (by omega)))) fun h2 => ?_) fun _ => none w hw
    · rw [e2]; exact hw.A _ _ (by decide) (by decide)
    · have zs : z.1 = w.1 := by rw [e2]; rfl
      have zL : z.2.2 = w.2.2 := by rw [e2]; rfl
      have zo : ∀ k, k ≠ 40 → z.2.1 k = w.2.1 k := fun k hk => by rw [e2]; exact if_neg hk
      exact (hK.ext wT ⟨by rw [zs]; exact Int.le_refl _, fun i _ _ => by rw [zL]⟩ (fun f => by rw [zs] at f; exact f) (fun i _ => ⟨by rw [zo 37 (by decide)], by rw [zo 38 (by decide)], by rw [zo 39 (by decide)]⟩)).del (by omega)
    · have zs : z.1 = w.1 := by rw [e2]; rfl
      have zL : z.2.2 = w.2.2 := by rw [e2]; rfl
      have zC : Ce_r w z := ⟨by rw [zs]; exact Int.le_refl _, fun i _ _ => by rw [zL]⟩
      have q : VK_r (a1 = 0 ∧ w.1 32 = 0) z (y4 + 1) := hV.set wT zC (fun i => by rw [e2]; rfl) (by rw [zs]; exact hr) (fun f => by
        rcases hm f.1 with m | m | m
        · exact absurd m hn1
        · exact absurd m.1 hn2
        · exact ⟨m.2.ext wT zC, m.1⟩)
      rw [zs]
      exact q
    · have h2 := Classical.not_not.mp h2
      have l := eL_r_r wT y5
      have q := eR_r_r wT y5
      refine j_left_r wT (bd_i (by omega) (by omega) (sw_e_r fun z1 e1 => ?_))
      have c1 : Ce_r w z1 := by rw [e1]; exact ⟨Int.le_refl _, fun _ _ _ => rfl⟩
      have T1 : RT_r z1 := by rw [e1]; exact RT_eq_r wT rfl rfl (fun k hk => if_neg (fun e => by rw [e] at hk; revert hk; decide))
      have er : eR_r' z1 y5 = eR_r' w y5 := (c1.el t5).2
      refine j_right_r T1 (bd_i (by omega) (by omega) (sw_e_r fun z2 e2 => bd_i (by omega) (by omega) (sw_e_r fun z3 e3 => ov_i (by omega) (by omega) ?_)))
      rw [er] at e2
      have zs : z3.1 = w.1 := by rw [e3, e2, e1]; rfl
      have zL : z3.2.2 = w.2.2 := by rw [e3, e2, e1]; rfl
      have r37 : ∀ i, z3.2.1 37 i = if i = (d : Int) then eL_r' w y5 else w.2.1 37 i := fun i => by rw [e3, e2, e1]; rfl
      have r38 : ∀ i, z3.2.1 38 i = if i = (d : Int) then eR_r' w y5 else w.2.1 38 i := fun i => by rw [e3, e2, e1]; rfl
      have r39 : ∀ i, z3.2.1 39 i = if i = (d : Int) then y4 else w.2.1 39 i := fun i => by rw [e3, e2, e1]; rfl
      have r40 : z3.2.1 40 = w.2.1 40 := by rw [e3, e2, e1]; rfl
      have zr : RG_r mS_r rbR_r u z3 := by
        rw [e3, e2, e1]
        exact ((hw.A _ _ (by decide) (by decide)).A _ _ (by decide) (by decide)).A _ _ (by decide) (by decide)
      have zC : Ce_r w z3 := ⟨by rw [zs]; exact Int.le_refl _, fun i _ _ => by rw [zL]⟩
      have hF : (a1 = 0 ∧ z3.1 32 = 0) → (a1 = 0 ∧ w.1 32 = 0) := fun f => by rw [zs] at f; exact f
      refine k128 z3 (d + 1) y4 hy zr (by omega) ⟨y4, by rw [r39, if_pos rfl], kr.1, Int.le_refl _, kr.2, by omega, hK.ext wT zC hF (fun i hi => ⟨by rw [r37, if_neg (by omega)], by rw [r38, if_neg (by omega)], by rw [r39, if_neg (by omega)]⟩), by rw [r37, if_pos rfl, zs]; exact l.2.1, by rw [r38, if_pos rfl, zs]; exact q.2.1, fun f => ?_⟩ (hV.ext wT zC hF (Int.le_refl _) (fun i _ => by rw [r40])) kr.2
      rw [r37, r38, if_pos rfl, if_pos rfl]
      rcases hm f.1 with m | m | m
      · exact absurd m hn1
      · obtain ⟨_, hp, n, m1, m2⟩ := m
        exact ⟨l.1, n, n, m2.ext wT zC q.2.1, m1, by omega⟩
      · omega
  unfold v_10_rebuilt_11b
  refine br_i (fun _ => none w hw) fun hy => br_i (fun hne => j_meaningOf_r wT t5 (fun z => (hf z).keep (hw.s 39 (by decide)) (hw.a 36 (by decide)) hw.2.1.1) w39 (fun z => by rw [hw.s 41 (by decide)]; have := h41 z; have := hw.2.1.1; omega) fun r hr => k38 (by omega) r hr (fun z => absurd z hne)) fun he => j_readMeaning_r wT wB (t50 (Classical.not_not.mp he)) t5 w37 w38 fun r hr hm => k38 (by omega) r hr (fun _ => hm)

