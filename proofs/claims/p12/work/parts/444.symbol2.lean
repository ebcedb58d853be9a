-- deps: 443
theorem p_symbol [DecidableEq Ob] {Q : Int → iST → Prop} {u : iST} (hT : TI u) (hU : TU u) (w0 : 0 ≤ u.1 18) (w1 : u.1 18 ≤ 12) (wk : Ob.okw (wrd u))
    (hq : ∀ k v, GR u v → 0 ≤ k → k < v.1 8 → ob v k = .sym (wrd u) → Q k v) : pw_symbol Q u := by
  have h8 := hT.1
  have hc11 := hT.2.2.2.2.2.1
  have hcr := cnt_r (u.2.1 0) (-2) (u.1 8).toNat
  unfold pw_symbol
  intro v1 e1 _
  subst e1
  refine p_spelled w0 w1 ?_
  have hr := wand_8191 (hashF (fun i => u.2.1 17 i) (u.1 18).toNat)
  have hr0 : 0 ≤ spellF (fun i => u.2.1 17 i) (u.1 18) := hr.1
  have hr1 : spellF (fun i => u.2.1 17 i) (u.1 18) < 8192 := hr.2
  intro _ _ x2 ex _
  have hh := hT.head hr0 hr1
  unfold HeadOk at hh
  rw [← ex] at hh
  refine pw_symbol_18_i (fun x1 x2 v => v = u ∧ x1 = spellF (fun i => u.2.1 17 i) (u.1 18) ∧ -1 ≤ x2 ∧ x2 < u.1 8 ∧ (x2 = -1 ∨ slotv u x2 = spellF (fun i => u.2.1 17 i) (u.1 18)) ∧ ∀ j, 0 ≤ j → j < u.1 8 → slotv u j = spellF (fun i => u.2.1 17 i) (u.1 18) → x2 < j → u.2.1 0 j = -2 → lts u (u.2.1 1 j) ≠ wrd u) ?_ ⟨rfl, rfl, hh.1, hh.2.1, hh.2.2.1, fun j j0 j1 hj hx => absurd (hh.2.2.2 j j0 j1 hj) (by omega)⟩
  intro x1 x2 v hI
  obtain ⟨rfl, rfl, q1, q2, q3, q4⟩ := hI
  unfold pw_symbol_18b
  refine ⟨fun hc => ?_, fun hc => ?_⟩
  · have hno : ∀ k, 0 ≤ k → k < v.1 8 → ob v k ≠ .sym (wrd v) := by
      intro k k0 k1 e
      rcases hT.cases k0 k1 with a | a | a
      · rw [ob_nat a] at e; exact absurd e Ob.nat_ne
      · rw [ob_sym a] at e
        have hs := hT.sym k0 k1 a
        refine q4 k k0 k1 ?_ (by omega) a (Ob.sym.inj e (hU.2.2.2.2 k k0 k1 a) wk)
        have hl := (lts_wrd w0 hs.2.2.2.1).mp (Ob.sym.inj e (hU.2.2.2.2 k k0 k1 a) wk)
        unfold slotv
        rw [if_neg (by omega), if_pos a, hl.1]
        unfold spellF
        rw [hashF_congr (g := fun i => v.2.1 17 i) _ (fun i i0 i1 => hl.2 i i0 (by omega))]
      · rw [ob_pr hT k0 k1 a] at e; cases e
    intro v4 e4 _ v5 e5 _ _ hm w ew
    subst e4 e5 ew
    refine pw_symbol_74_i (fun x1 x2 w => x1 = spellF (fun i => v.2.1 17 i) (v.1 18) ∧ 0 ≤ x2 ∧ x2 ≤ v.1 18 ∧ w.1 = v.1 ∧ w.2.2 = v.2.2 ∧ (∀ g, g ≠ 9 → g ≠ 10 → w.2.1 g = v.2.1 g) ∧ (∀ i, w.2.1 10 i = if i = v.1 11 then v.1 18 else v.2.1 10 i) ∧ (∀ i, i < 12 * v.1 11 → w.2.1 9 i = v.2.1 9 i) ∧ ∀ i, 0 ≤ i → i < x2 → w.2.1 9 (12 * v.1 11 + i) = v.2.1 17 i) ?_ ⟨rfl, by omega, by omega, rfl, rfl, fun g g9 g10 => if_neg g10, fun i => rfl, fun i hi => rfl, fun i i0 i1 => by omega⟩
    intro x1 x2 w hI
    obtain ⟨rfl, p0, p1, p2, p3, p4, p5, p6, p7⟩ := hI
    have e18 : w.1 18 = v.1 18 := congrFun p2 18
    have e11 : w.1 11 = v.1 11 := congrFun p2 11
    have e8 : w.1 8 = v.1 8 := congrFun p2 8
    have e6 : w.1 6 = v.1 6 := congrFun p2 6
    unfold pw_symbol_74b
    intro v6 e6' _
    subst e6'
    refine ⟨fun hd => ?_, fun hd => ?_⟩
    · intro v7 e7 _ _ w7 ew7 v9 e9 _ _
      subst e7 ew7 e9
      have e : (iI w 11 (w.1 11 + 1)).1 11 - 1 = v.1 11 := by
        show w.1 11 + 1 - 1 = v.1 11
        omega
      rw [e]
      by_cases hn : ¬ v.1 8 < 452000
      · unfold pw_added
        intro y e _ b0 b1
        subst e
        have b1 : w.1 8 < 452000 := b1
        omega
      have hn := Decidable.not_not.mp hn
      refine wp_w_added (fun _ _ h => h) (s_added (show 0 ≤ w.1 8 by omega) (show w.1 8 < 452000 by omega) hr0 hr1 (fun z => absurd z (by omega)) ?_)
      show Q (w.1 8) (uAdd (iI w 11 (w.1 11 + 1)) (-2) (v.1 11) (spellF (fun i => v.2.1 17 i) (v.1 18)) 0)
      generalize hz : uAdd (iI w 11 (w.1 11 + 1)) (-2) (v.1 11) (spellF (fun i => v.2.1 17 i) (v.1 18)) 0 = z
      have z0 : ∀ k, z.2.1 0 k = if k = v.1 8 then -2 else v.2.1 0 k := fun k => by rw [← hz, uAdd_0]; show (if k = w.1 8 then _ else w.2.1 0 k) = _; rw [e8, p4 0 (by decide) (by decide)]
      have z1 : ∀ k, z.2.1 1 k = if k = v.1 8 then v.1 11 else v.2.1 1 k := fun k => by rw [← hz, uAdd_1]; show (if k = w.1 8 then _ else w.2.1 1 k) = _; rw [e8, p4 1 (by decide) (by decide)]
      have z2 : ∀ k, z.2.1 2 k = if k = v.1 8 then v.2.1 7 (spellF (fun i => v.2.1 17 i) (v.1 18)) else v.2.1 2 k := fun k => by rw [← hz, uAdd_2]; show (if k = w.1 8 then w.2.1 7 _ else w.2.1 2 k) = _; rw [e8, p4 2 (by decide) (by decide), p4 7 (by decide) (by decide)]
      have z3 : ∀ k, z.2.1 3 k = if k = v.1 8 then 0 else v.2.1 3 k := fun k => by rw [← hz, uAdd_3]; show (if k = w.1 8 then _ else w.2.1 3 k) = _; rw [e8, p4 3 (by decide) (by decide)]
      have z4 : ∀ k, z.2.1 4 k = if k = v.1 8 then 0 else v.2.1 4 k := fun k => by rw [← hz, uAdd_4]; show (if k = w.1 8 then _ else w.2.1 4 k) = _; rw [e8, p4 4 (by decide) (by decide)]
      have z7 : ∀ k, z.2.1 7 k = if k = spellF (fun i => v.2.1 17 i) (v.1 18) then v.1 8 else v.2.1 7 k := fun k => by rw [← hz, uAdd_7]; show (if k = _ then w.1 8 else w.2.1 7 k) = _; rw [e8, p4 7 (by decide) (by decide)]
      have z9 : z.2.1 9 = w.2.1 9 := by rw [← hz]; exact uAdd_g (by decide)
      have z10 : z.2.1 10 = w.2.1 10 := by rw [← hz]; exact uAdd_g (by decide)
      have zL : z.2.2 = v.2.2 := by rw [← hz]; exact p3
      have zs : ∀ k, z.1 k = if k = 8 then v.1 8 + 1 else if k = 11 then v.1 11 + 1 else v.1 k := fun k => by rw [← hz, uAdd_s]; show (if k = 8 then w.1 8 + 1 else if k = 11 then w.1 11 + 1 else w.1 k) = _; rw [e8, e11, p2]
      have s8 : z.1 8 = v.1 8 + 1 := by rw [zs]; rfl
      have s11 : z.1 11 = v.1 11 + 1 := by rw [zs]; rfl
      have s6 : z.1 6 = v.1 6 := by rw [zs]; rfl
      have hTz : TI z := by
        refine TI_new (h := spellF (fun i => v.2.1 17 i) (v.1 18)) hT hn s8 (by rw [s6]; exact hT.2.2.1) (by rw [s11]; omega) ?_ ?_ (fun k _ hk => by rw [z0, if_neg (by omega)]) (fun k _ hk => by rw [z1, if_neg (by omega)]) (fun k _ hk => by rw [z2, if_neg (by omega)]) (fun k _ hk => by rw [z4, if_neg (by omega)]) ?_ ?_ ?_ (by rw [z4, if_pos rfl]; omega) hr0 hr1 ?_ (by rw [z2, if_pos rfl]) z7 ?_
        · rw [cnt_last (by omega), z0, if_pos rfl, if_neg (by omega), cnt_congr (g := v.2.1 0) _ (fun i i0 i1 => by rw [z0, if_neg (by omega)]), s6]
          have := hT.2.2.2.2.1
          omega
        · rw [cnt_last (by omega), z0, if_pos rfl, if_pos rfl, cnt_congr (g := v.2.1 0) _ (fun i i0 i1 => by rw [z0, if_neg (by omega)]), s11]
          omega
        · intro k k0 k1
          refine slotv_congr (by rw [z0, if_neg (by omega)]) (by rw [z1, if_neg (by omega)]) (fun _ => by rw [zL]) (fun hk => ?_)
          have hy := hT.sym k0 k1 hk
          refine ⟨by rw [z10, p5, if_neg (by omega)], fun i i0 i1 => by rw [z9, p6 _ (by omega)]⟩
        · intro k k0 k1
          refine kind_congr (hT.kind k0 k1) k0 (fun j _ hj => by rw [z0, if_neg (by omega)]) (by rw [z1, if_neg (by omega)]) (fun _ => by rw [zL]) (fun hk => ?_)
          have hy := hT.sym k0 k1 hk
          rw [z10, p5, if_neg (by omega)]
        · refine Or.inr (Or.inl ⟨by rw [z0, if_pos rfl], ?_, ?_, ?_⟩)
          · rw [z1, if_pos rfl, cnt_congr (g := v.2.1 0) _ (fun i i0 i1 => by rw [z0, if_neg (by omega)])]
            exact hc11
          · rw [z1, if_pos rfl, z10, p5, if_pos rfl]; exact w0
          · rw [z1, if_pos rfl, z10, p5, if_pos rfl]; exact w1
        · unfold slotv
          rw [z0, z1, if_pos rfl, if_pos rfl, if_neg (by omega), if_pos rfl, z10, p5, if_pos rfl]
          unfold spellF
          rw [hashF_congr (g := fun i => v.2.1 17 i) _ (fun i i0 i1 => ?_)]
          rw [z9, p7 i i0 (by omega)]
        · intro z9
          rw [z0, if_pos rfl] at z9
          omega
      have hE : Ext v z := ⟨⟨by omega, by omega, by omega⟩, fun k k0 k1 => ⟨by rw [z0, if_neg (by omega)], by rw [z1, if_neg (by omega)], by rw [z4, if_neg (by omega)]⟩, fun i _ _ => by rw [zL], fun i i0 i1 => by rw [z10, p5, if_neg (by omega)], fun i i0 i1 => by rw [z9, p6 i i1]⟩
      have hS : Szs v z := ⟨fun k k0 k1 => by rw [z3, if_neg (by omega)], fun k k0 k1 => by rw [z3, if_pos (by omega)]⟩
      have eb : ob z (v.1 8) = .sym (wrd v) := by
        rw [ob_sym (by rw [z0, if_pos rfl]), z1, if_pos rfl]
        refine congrArg Ob.sym ?_
        unfold lts wrd
        rw [z10, p5, if_pos rfl]
        refine List.map_congr_left (fun i hi => ?_)
        have := List.mem_range.mp hi
        rw [z9, p7 _ (by omega) (by omega)]
      rw [e8]
      refine hq _ _ ⟨hTz, TU_new hT hU hTz hE hS s8 ?_ ?_ (fun _ => ?_), hE, hS, fun j hj => ?_⟩ (by omega) (by omega) eb
      · rw [eb, z4, if_pos rfl]; rfl
      · intro k k0 k1 e
        rw [eb] at e
        exact hno k k0 k1 e
      · rw [ob_sym (by rw [z0, if_pos rfl])] at eb
        have hl : lts z (z.2.1 1 (v.1 8)) = wrd v := by
          unfold lts wrd
          rw [z1, if_pos rfl, z10, p5, if_pos rfl]
          refine List.map_congr_left (fun i hi => ?_)
          have := List.mem_range.mp hi
          rw [z9, p7 _ (by omega) (by omega)]
        rw [hl]; exact wk
      · have hj2 : ¬ j ≤ 11 := by simpa [fT] using hj
        refine ⟨by rw [zs, if_neg (by omega), if_neg (by omega)], ?_⟩
        rw [← hz, uAdd_g ⟨by omega, by omega, by omega, by omega, by omega, by omega⟩]
        exact p4 j (by omega) (by omega)
    · intro v12 e12 _ _ _ _ _ v15 e15 _ _ _ w' ew' _
      subst e12 e15 ew'
      refine ⟨rfl, by omega, by omega, p2, p3, fun g g9 g10 => (if_neg g9).trans (p4 g g9 g10), p5, fun i hi => ?_, fun i i0 i1 => ?_⟩
      · show (if i = 12 * w.1 11 + x2 then _ else w.2.1 9 i) = _
        rw [if_neg (by omega), p6 i hi]
      · show (if 12 * v.1 11 + i = 12 * w.1 11 + x2 then w.2.1 17 x2 else w.2.1 9 (12 * v.1 11 + i)) = _
        by_cases e : i = x2
        · rw [if_pos (by omega), p4 17 (by decide) (by decide), e]
        · rw [if_neg (by omega), p7 i i0 (by omega)]
  · have nx := hT.node (k := x2) (by omega) q2
    have goon : (v.2.1 0 x2 = -2 → lts v (v.2.1 1 x2) ≠ wrd v) → ∀ Q', pw_symbol_49 (fun x1 x2 v' => v' = v ∧ x1 = spellF (fun i => v.2.1 17 i) (v.1 18) ∧ -1 ≤ x2 ∧ x2 < v.1 8 ∧ (x2 = -1 ∨ slotv v x2 = spellF (fun i => v.2.1 17 i) (v.1 18)) ∧ ∀ j, 0 ≤ j → j < v.1 8 → slotv v j = spellF (fun i => v.2.1 17 i) (v.1 18) → x2 < j → v.2.1 0 j = -2 → lts v (v.2.1 1 j) ≠ wrd v) Q' (spellF (fun i => v.2.1 17 i) (v.1 18)) x2 v := by
      intro hx Q'
      unfold pw_symbol_49
      intro _ _ y e _
      subst e
      refine ⟨rfl, rfl, nx.2.2.2.1, by have := nx.2.2.2.2.1; omega, ?_, ?_⟩
      · rcases nx.2.2.2.2.2.1 with h | h
        · exact Or.inl h
        · exact Or.inr (by rw [h]; omega)
      · intro j j0 j1 hj hx4 hl
        by_cases e : j = x2
        · subst e; exact hx hl
        · refine q4 j j0 j1 hj ?_ hl
          rcases Int.lt_or_le x2 j with z | z
          · exact z
          · have := nx.2.2.2.2.2.2 j j0 (by omega) (by omega)
            omega
    intro _ _ y e _
    subst e
    refine ⟨fun hd => goon (fun z => absurd z hd) _, fun hd => ?_⟩
    have hd : v.2.1 0 x2 = -2 := by omega
    have hv := hT.sym (k := x2) (by omega) q2 hd
    intro _ _ y e _
    subst e
    refine p_isWord w0 hv.2.2.2.1 (fun r hr => ⟨fun he => goon (fun _ => hr.mp he) _, fun he => ?_⟩)
    refine hq x2 v (GR.rf hT hU) (by omega) q2 ?_
    rw [ob_sym hd]
    exact congrArg Ob.sym (Classical.byContradiction (fun z => he (hr.mpr z)))
