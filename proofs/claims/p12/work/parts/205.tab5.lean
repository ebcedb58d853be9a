/-! symbol, forget -/
theorem s_isWord {k : Int} {Q : Int → iST → Prop} {u : iST} (k0 : 0 ≤ k) (k1 : k < 21000) (w0 : 0 ≤ u.1 18) (w1 : u.1 18 ≤ 12) (h : ∀ r, bz r → Q r u) : w_isWord k Q u := by
  unfold w_isWord
  have key : ∀ y0, bz y0 → w_isWord_18 Q k y0 u := by
    intro y0 hy
    unfold w_isWord_18 w_isWord_21
    refine lf3 (B := fun R x1 x2 x3 u => w_isWord_21b R Q x1 x2 x3 u) (fun x1 x2 x3 v => v = u ∧ x1 = k ∧ bz x2 ∧ 0 ≤ x3 ∧ x3 ≤ u.1 18) (fun _ _ x3 _ => (u.1 18 - x3).toNat) ?_ ⟨rfl, rfl, hy, by omega, w0⟩
    intro x1 x2 x3 v hI R ih
    obtain ⟨rfl, rfl, q1, q2, q3⟩ := hI
    unfold w_isWord_21b
    refine rd_i fun _ => br_i (fun hc => ⟨q1, h _ q1⟩) (fun hc => br_i (fun hd => ⟨q1, h _ q1⟩) (fun hd => ?_))
    refine ov_i (by omega) (by omega) (ov_i (by omega) (by omega) (bd_i (by omega) (by omega) (rd_i fun _ => bd_i q2 (by omega) (rd_i fun _ => br_i (fun _ => ov_i (by omega) (by omega) ?_) (fun _ => ov_i (by omega) (by omega) ?_)))))
    · exact ih _ _ _ _ ⟨rfl, rfl, Or.inl rfl, by omega, by omega⟩ (by omega)
    · exact ih _ _ _ _ ⟨rfl, rfl, Or.inr rfl, by omega, by omega⟩ (by omega)
  exact bd_i k0 k1 (rd_i fun _ => rd_i fun _ => br_i (fun _ => key _ (Or.inl rfl)) (fun _ => key _ (Or.inr rfl)))
/-- what the making of a symbol leaves -/
def GrowS (u v : iST) : Prop := TI v ∧ Ext u v ∧ Szs u v ∧ Fx fT u v ∧ v.1 8 ≤ u.1 8 + 1 ∧ v.1 6 = u.1 6 ∧ v.1 11 ≤ u.1 11 + 1
theorem g_symbol {Q : Int → iST → Prop} {u : iST} (hT : TI u) (hn : u.1 8 < 452000) (hm : u.1 11 < 21000) (w0 : 0 ≤ u.1 18) (w1 : u.1 18 ≤ 12)
    (hq : ∀ k v, GrowS u v → 0 ≤ k → k < v.1 8 → v.2.1 0 k = -2 → Q k v) : w_symbol Q u := by
  have h8 := hT.1
  have hc11 := hT.2.2.2.2.2.1
  have hcr := cnt_r (u.2.1 0) (-2) (u.1 8).toNat
  unfold w_symbol
  generalize hF : (fun i => if (1 : Int) = 0 then u.2.1 9 (0 + i) else u.2.1 17 i) = f
  have hr := wand_8191 (hashF f (u.1 18).toNat)
  have hr0 : 0 ≤ spellF f (u.1 18) := hr.1
  have hr1 : spellF f (u.1 18) < 8192 := hr.2
  refine rd_i fun _ => s_spelled w0 w1 (fun z => absurd z (by decide)) ?_
  rw [hF]
  refine bd_i hr0 hr1 (rd_i fun _ => ?_)
  unfold w_symbol_18
  have hh := hT.head hr0 hr1
  refine lf2 (B := fun R x1 x2 u => w_symbol_18b R Q x1 x2 u) (fun x1 x2 v => v = u ∧ x1 = spellF f (u.1 18) ∧ -1 ≤ x2 ∧ x2 < u.1 8) (fun _ x2 _ => (x2 + 1).toNat) ?_ ⟨rfl, rfl, hh.1, hh.2.1⟩
  intro x1 x2 v hI R ih
  obtain ⟨rfl, rfl, q1, q2⟩ := hI
  unfold w_symbol_18b
  refine br_i (fun hc => ?_) (fun hc => ?_)
  · refine rd_i fun _ => rd_i fun _ => bd_i (by omega) hm (sw_i ?_)
    unfold w_symbol_74
    refine lf2 (B := fun R x1 x2 u => w_symbol_74b R Q x1 x2 u) (fun x1 x2 w => x1 = spellF f (v.1 18) ∧ 0 ≤ x2 ∧ x2 ≤ v.1 18 ∧ w.1 = v.1 ∧ w.2.2 = v.2.2 ∧ (∀ g, g ≠ 9 → g ≠ 10 → w.2.1 g = v.2.1 g) ∧ (∀ i, w.2.1 10 i = if i = v.1 11 then v.1 18 else v.2.1 10 i) ∧ (∀ i, i < 12 * v.1 11 → w.2.1 9 i = v.2.1 9 i) ∧ ∀ i, 0 ≤ i → i < x2 → w.2.1 9 (12 * v.1 11 + i) = v.2.1 17 i) (fun _ x2 _ => (v.1 18 - x2).toNat) ?_ ⟨rfl, by omega, w0, rfl, rfl, fun g _ g10 => if_neg g10, fun i => rfl, fun i _ => rfl, fun i i0 i1 => by omega⟩
    intro x1 x2 w hI R2 ih2
    obtain ⟨rfl, p0, p1, p2, p3, p4, p5, p6, p7⟩ := hI
    have e18 : w.1 18 = v.1 18 := congrFun p2 18
    have e11 : w.1 11 = v.1 11 := congrFun p2 11
    have e8 : w.1 8 = v.1 8 := congrFun p2 8
    have e6 : w.1 6 = v.1 6 := congrFun p2 6
    unfold w_symbol_74b
    refine rd_i fun _ => br_i (fun hd => ?_) (fun hd => ?_)
    · refine rd_i fun _ => ov_i (by omega) (by omega) (sw_i (rd_i fun _ => ov_i (show -2147483648 ≤ w.1 11 + 1 - 1 by omega) (show w.1 11 + 1 - 1 < 2147483648 by omega) ?_))
      have e : w.1 11 + 1 - 1 = v.1 11 := by omega
      show w_added (-2) (w.1 11 + 1 - 1) _ _ _
      rw [e]
      refine s_added (show 0 ≤ w.1 8 by omega) (show w.1 8 < 452000 by omega) hr0 hr1 (fun z => absurd z (by omega)) ?_
      show Q (w.1 8) (uAdd (iI w 11 (w.1 11 + 1)) (-2) (v.1 11) (spellF f (v.1 18)) 0)
      generalize hz : uAdd (iI w 11 (w.1 11 + 1)) (-2) (v.1 11) (spellF f (v.1 18)) 0 = z
      have z0 : ∀ k, z.2.1 0 k = if k = v.1 8 then -2 else v.2.1 0 k := fun k => by rw [← hz, uAdd_0]; show (if k = w.1 8 then _ else w.2.1 0 k) = _; rw [e8, p4 0 (by decide) (by decide)]
      have z1 : ∀ k, z.2.1 1 k = if k = v.1 8 then v.1 11 else v.2.1 1 k := fun k => by rw [← hz, uAdd_1]; show (if k = w.1 8 then _ else w.2.1 1 k) = _; rw [e8, p4 1 (by decide) (by decide)]
      have z2 : ∀ k, z.2.1 2 k = if k = v.1 8 then v.2.1 7 (spellF f (v.1 18)) else v.2.1 2 k := fun k => by rw [← hz, uAdd_2]; show (if k = w.1 8 then w.2.1 7 _ else w.2.1 2 k) = _; rw [e8, p4 2 (by decide) (by decide), p4 7 (by decide) (by decide)]
      have z3 : ∀ k, z.2.1 3 k = if k = v.1 8 then 0 else v.2.1 3 k := fun k => by rw [← hz, uAdd_3]; show (if k = w.1 8 then _ else w.2.1 3 k) = _; rw [e8, p4 3 (by decide) (by decide)]
      have z4 : ∀ k, z.2.1 4 k = if k = v.1 8 then 0 else v.2.1 4 k := fun k => by rw [← hz, uAdd_4]; show (if k = w.1 8 then _ else w.2.1 4 k) = _; rw [e8, p4 4 (by decide) (by decide)]
      have z7 : ∀ k, z.2.1 7 k = if k = spellF f (v.1 18) then v.1 8 else v.2.1 7 k := fun k => by rw [← hz, uAdd_7]; show (if k = _ then w.1 8 else w.2.1 7 k) = _; rw [e8, p4 7 (by decide) (by decide)]
      have z9 : z.2.1 9 = w.2.1 9 := by rw [← hz]; exact uAdd_g (by decide)
      have z10 : z.2.1 10 = w.2.1 10 := by rw [← hz]; exact uAdd_g (by decide)
      have zL : z.2.2 = v.2.2 := by rw [← hz]; exact p3
      have zs : ∀ k, z.1 k = if k = 8 then v.1 8 + 1 else if k = 11 then v.1 11 + 1 else v.1 k := fun k => by rw [← hz, uAdd_s]; show (if k = 8 then w.1 8 + 1 else if k = 11 then w.1 11 + 1 else w.1 k) = _; rw [e8, e11, p2]
      have s8 : z.1 8 = v.1 8 + 1 := by rw [zs]; rfl
      have s11 : z.1 11 = v.1 11 + 1 := by rw [zs]; rfl
      have s6 : z.1 6 = v.1 6 := by rw [zs]; rfl
      have hTz : TI z := by
        refine TI_new (h := spellF f (v.1 18)) hT hn s8 (by rw [s6]; exact hT.2.2.1) (by rw [s11]; omega) ?_ ?_ (fun k _ hk => by rw [z0, if_neg (by omega)]) (fun k _ hk => by rw [z1, if_neg (by omega)]) (fun k _ hk => by rw [z2, if_neg (by omega)]) (fun k _ hk => by rw [z4, if_neg (by omega)]) ?_ ?_ ?_ (by rw [z4, if_pos rfl]; omega) hr0 hr1 ?_ (by rw [z2, if_pos rfl]) z7 ?_
        · rw [cnt_last (by omega), z0, if_pos rfl, if_neg (by omega), cnt_congr (g := v.2.1 0) _ (fun i i0 i1 => by rw [z0, if_neg (by omega)]), s6]
          have := hT.2.2.2.2.1
          omega
        · rw [cnt_last (by omega), z0, if_pos rfl, if_pos rfl, cnt_congr (g := v.2.1 0) _ (fun i i0 i1 => by rw [z0, if_neg (by omega)]), s11]
          omega
        · intro k k0 k1
          refine slotv_congr (by rw [z0, if_neg (by omega)]) (by rw [z1, if_neg (by omega)]) (fun _ => by rw [zL]) (fun hk => ?_)
          have hy := hT.sym k0 k1 hk
          refine ⟨by rw [z10, p5, if_neg (by omega)], fun i i0 i1 => by rw [z9, p6 _ (by omega)]⟩
        · intro k k0 k1
          refine kind_congr (hT.kind k0 k1) k0 (fun j _ hj => by rw [z0, if_neg (by omega)]) (by rw [z1, if_neg (by omega)]) (fun _ => by rw [zL]) (fun hk => ?_)
          have hy := hT.sym k0 k1 hk
          rw [z10, p5, if_neg (by omega)]
        · refine Or.inr (Or.inl ⟨by rw [z0, if_pos rfl], ?_, ?_, ?_⟩)
          · rw [z1, if_pos rfl, cnt_congr (g := v.2.1 0) _ (fun i i0 i1 => by rw [z0, if_neg (by omega)])]
            exact hc11
          · rw [z1, if_pos rfl, z10, p5, if_pos rfl]; exact w0
          · rw [z1, if_pos rfl, z10, p5, if_pos rfl]; exact w1
        · unfold slotv
          rw [z0, z1, if_pos rfl, if_pos rfl, if_neg (by omega), if_pos rfl, z10, p5, if_pos rfl]
          unfold spellF
          rw [hashF_congr (g := f) _ (fun i i0 i1 => ?_)]
          rw [z9, p7 i i0 (by omega), ← hF]
          rfl
        · intro z9
          rw [z0, if_pos rfl] at z9
          omega
      refine hq _ _ ⟨hTz, ⟨⟨by omega, by omega, by omega⟩, fun k k0 k1 => ⟨by rw [z0, if_neg (by omega)], by rw [z1, if_neg (by omega)], by rw [z4, if_neg (by omega)]⟩, fun i _ _ => by rw [zL], fun i i0 i1 => by rw [z10, p5, if_neg (by omega)], fun i i0 i1 => by rw [z9, p6 i i1]⟩, ⟨fun k k0 k1 => by rw [z3, if_neg (by omega)], fun k k0 k1 => by rw [z3, if_pos (by omega)]⟩, fun j hj => ?_, by omega, s6, by omega⟩ (by omega) (by omega) (by rw [z0, if_pos (by omega)])
      have hj2 : ¬ j ≤ 11 := by simpa [fT] using hj
      refine ⟨by rw [zs, if_neg (by omega), if_neg (by omega)], ?_⟩
      rw [← hz, uAdd_g ⟨by omega, by omega, by omega, by omega, by omega, by omega⟩]
      exact p4 j (by omega) (by omega)
    · refine rd_i fun _ => ov_i (by omega) (by omega) (ov_i (by omega) (by omega) (bd_i p0 (by omega) (rd_i fun _ => bd_i (by omega) (by omega) (sw_i (ov_i (by omega) (by omega) ?_)))))
      refine ih2 _ _ _ ⟨rfl, by omega, by omega, p2, p3, fun g g9 g10 => (if_neg g9).trans (p4 g g9 g10), p5, fun i hi => ?_, fun i i0 i1 => ?_⟩ (by omega)
      · show (if i = 12 * w.1 11 + x2 then _ else w.2.1 9 i) = _
        rw [if_neg (by omega), p6 i hi]
      · show (if 12 * v.1 11 + i = 12 * w.1 11 + x2 then w.2.1 17 x2 else w.2.1 9 (12 * v.1 11 + i)) = _
        by_cases e : i = x2
        · rw [if_pos (by omega), p4 17 (by decide) (by decide), e]
        · rw [if_neg (by omega), p7 i i0 (by omega)]
  · have nx := hT.node (k := x2) (by omega) q2
    have goon : w_symbol_49 R Q (spellF f (v.1 18)) x2 v := by
      unfold w_symbol_49
      refine bd_i (by omega) (by omega) (rd_i fun _ => ?_)
      refine ih _ _ _ ⟨rfl, rfl, nx.2.2.2.1, by have := nx.2.2.2.2.1; omega⟩ ?_
      have := nx.2.2.2.1; have := nx.2.2.2.2.1
      omega
    refine bd_i (by omega) (by omega) (rd_i fun _ => br_i (fun _ => goon) (fun hd => bd_i (by omega) (by omega) (rd_i fun _ => ?_)))
    have hd : v.2.1 0 x2 = -2 := by omega
    have hv := hT.sym (k := x2) (by omega) q2 hd
    refine s_isWord hv.1 hv.2.2.1 w0 w1 fun r hr => br_i (fun _ => goon) (fun he => ?_)
    exact hq x2 v ⟨hT, Ext.rf v, Szs.rf v, Fx.rf _ v, by omega, rfl, by omega⟩ (by omega) q2 hd
/-- one object less -/
theorem TI_pop {u w : iST} (hT : TI u) (h44 : 44 < u.1 8) (e8 : w.1 8 = u.1 8 - 1) (e6 : w.1 6 = u.1 6 - (if u.2.1 0 (u.1 8 - 1) = -1 then 1 else 0)) (e11 : w.1 11 = u.1 11 - (if u.2.1 0 (u.1 8 - 1) = -2 then 1 else 0)) (ha : ∀ g, g ≠ 7 → w.2.1 g = u.2.1 g) (hL : w.2.2 = u.2.2) (h7 : ∀ j, w.2.1 7 j = if j = slotv u (u.1 8 - 1) then u.2.1 2 (u.1 8 - 1) else u.2.1 7 j) : TI w := by
  obtain ⟨t1, t2, t3, t4, t5, t6, t7, t8, t9, t10⟩ := hT
  have l0 := cnt_last (f := u.2.1 0) (c := -1) (n := u.1 8 - 1) (by omega)
  have l1 := cnt_last (f := u.2.1 0) (c := -2) (n := u.1 8 - 1) (by omega)
  rw [show u.1 8 - 1 + 1 = u.1 8 from by omega] at l0 l1
  have hs : ∀ k, slotv w k = slotv u k := fun k => by
    unfold slotv
    rw [ha 0 (by decide), ha 1 (by decide), ha 9 (by decide), ha 10 (by decide), hL]
  refine ⟨by omega, by omega, ?_, ?_, ?_, ?_, ?_, ?_, ?_, ?_⟩
  · rw [e6]; split <;> omega
  · rw [e11]; split <;> omega
  · rw [e6, e8, ha 0 (by decide)]; omega
  · rw [e11, e8, ha 0 (by decide)]; omega
  · intro k k0 k1
    have hk := t7 k k0 (by omega)
    unfold NodeOk KindOk at hk ⊢
    rw [hs, ha 0 (by decide), ha 1 (by decide), ha 2 (by decide), ha 4 (by decide), ha 10 (by decide), hL, hs]
    obtain ⟨q1, q2, q3, q4, q5, q6, q7⟩ := hk
    exact ⟨q1, q2, q3, q4, q5, q6, fun j j0 j1 hj => q7 j j0 j1 (by rw [← hs j]; exact hj)⟩
  · intro g g0 g1
    obtain ⟨q1, q2, q3, q4⟩ := t8 g g0 g1
    have nl := t7 (u.1 8 - 1) (by omega) (by omega)
    unfold HeadOk
    rw [h7, e8]
    by_cases e : g = slotv u (u.1 8 - 1)
    · rw [if_pos e, hs]
      refine ⟨nl.2.2.2.1, nl.2.2.2.2.1, ?_, fun j j0 j1 hj => ?_⟩
      · rcases nl.2.2.2.2.2.1 with z | z
        · exact Or.inl z
        · exact Or.inr (by rw [z]; exact e.symm)
      · rw [hs] at hj
        exact nl.2.2.2.2.2.2 j j0 j1 (by rw [hj]; exact e)
    · rw [if_neg e, hs]
      refine ⟨q1, ?_, q3, fun j j0 j1 hj => ?_⟩
      · rcases q3 with z | z
        · omega
        · by_cases e2 : u.2.1 7 g = u.1 8 - 1
          · rw [e2] at z
            exact absurd z.symm e
          · omega
      · rw [hs] at hj
        exact q4 j j0 (by omega) hj
  · intro k k0 k1
    rw [ha 0 (by decide)]
    exact t9 k k0 k1
  · intro j k j0 jk k1 hl he
    rw [ha 0 (by decide)] at hl he
    rw [ha 1 (by decide)]
    exact t10 j k j0 jk (by omega) hl he
/-- back to n objects -/
theorem g_forget {n : Int} {Q : iST → Prop} {u : iST} (hT : TI u) (n0 : 44 ≤ n) (n1 : n ≤ u.1 8) (hq : ∀ v, TI v → v.1 8 = n → Ext v u → (∀ g, g ≠ 7 → v.2.1 g = u.2.1 g) → v.2.2 = u.2.2 → (∀ k, k ≠ 6 → k ≠ 8 → k ≠ 11 → v.1 k = u.1 k) → Q v) : w_forget n Q u := by
  unfold w_forget w_forget_0
  refine lf1 (B := fun R x1 u => w_forget_0b R Q x1 u) (fun x1 v => x1 = n ∧ TI v ∧ n ≤ v.1 8 ∧ v.1 8 ≤ u.1 8 ∧ v.1 6 ≤ u.1 6 ∧ v.1 11 ≤ u.1 11 ∧ (∀ g, g ≠ 7 → v.2.1 g = u.2.1 g) ∧ v.2.2 = u.2.2 ∧ (∀ k, k ≠ 6 → k ≠ 8 → k ≠ 11 → v.1 k = u.1 k)) (fun _ v => (v.1 8).toNat) ?_ ⟨rfl, hT, n1, Int.le_refl _, Int.le_refl _, Int.le_refl _, fun _ _ => rfl, rfl, fun _ _ _ _ => rfl⟩
  intro x1 v hI R ih
  obtain ⟨rfl, p1, p2, p3, p3a, p3b, p4, p5, p6⟩ := hI
  have h8 := p1.1
  have h82 := p1.2.1
  unfold w_forget_0b
  refine rd_i fun _ => br_i (fun hc => ?_) (fun hc => ?_)
  · refine hq v p1 (by omega) ⟨⟨p3, p3a, p3b⟩, fun k _ _ => ?_, fun i _ _ => by rw [p5], fun i _ _ => by rw [p4 10 (by decide)], fun i _ _ => by rw [p4 9 (by decide)]⟩ p4 p5 p6
    rw [p4 0 (by decide), p4 1 (by decide), p4 4 (by decide)]
    exact ⟨rfl, rfl, rfl⟩
  · refine rd_i fun _ => ov_i (by omega) (by omega) (sw_i (rd_i fun _ => ?_))
    have hsl := p1.slot (k := v.1 8 - 1) (by omega) (by omega)
    have hsr := slotv_r v (v.1 8 - 1)
    have hnat := fun h => p1.nat (k := v.1 8 - 1) (by omega) (by omega) h
    have hsym := fun h => p1.sym (k := v.1 8 - 1) (by omega) (by omega) h
    refine s_slotOf (u := iI v 8 (v.1 8 - 1)) (show 0 ≤ v.1 8 - 1 by omega) (show v.1 8 - 1 < 452000 by omega) hsl ?_
    show rd (v.1 8 - 1) _
    refine rd_i fun _ => bd_i (show 0 ≤ v.1 8 - 1 by omega) (by omega) (rd_i fun _ => bd_i hsr.1 hsr.2 (sw_i (rd_i fun _ => bd_i (show 0 ≤ v.1 8 - 1 by omega) (show v.1 8 - 1 < 452000 by omega) (rd_i fun _ => ?_))))
    have hsv : slotv (iI v 8 (v.1 8 - 1)) (v.1 8 - 1) = slotv v (v.1 8 - 1) := rfl
    have fin : ∀ w : iST, w.1 8 = v.1 8 - 1 → (w.1 11 = v.1 11 - (if v.2.1 0 (v.1 8 - 1) = -2 then 1 else 0)) → w.1 6 = v.1 6 → (∀ k, k ≠ 6 → k ≠ 8 → k ≠ 11 → w.1 k = v.1 k) → (∀ g, g ≠ 7 → w.2.1 g = v.2.1 g) → w.2.2 = v.2.2 → (∀ j, w.2.1 7 j = if j = slotv v (v.1 8 - 1) then v.2.1 2 (v.1 8 - 1) else v.2.1 7 j) → w_forget_64 R Q x1 w := by
      intro w a1 a2 a3 a4 a5 a6 a7
      unfold w_forget_64
      refine rd_i fun _ => bd_i (by omega) (by omega) (rd_i fun _ => br_i (fun hd => ?_) (fun hd => ?_))
      · rw [a1, a5 0 (by decide)] at hd
        refine ih _ _ ⟨rfl, TI_pop p1 (by omega) a1 (by rw [if_neg hd]; omega) a2 a5 a6 a7, by omega, by omega, by omega, ?_, fun g hg => (a5 g hg).trans (p4 g hg), a6.trans p5, fun k k1 k2 k3 => (a4 k k1 k2 k3).trans (p6 k k1 k2 k3)⟩ (by omega)
        rw [a2]; split <;> omega
      · rw [a1, a5 0 (by decide)] at hd
        have hd : v.2.1 0 (v.1 8 - 1) = -1 := by omega
        have hh := hnat hd
        refine rd_i fun _ => ov_i (by omega) (by omega) (sw_i ?_)
        refine ih _ _ ⟨rfl, TI_pop (w := iI w 6 (w.1 6 - 1)) p1 (by omega) a1 (by show w.1 6 - 1 = _; rw [if_pos hd]; omega) a2 a5 a6 a7, show x1 ≤ w.1 8 by omega, show w.1 8 ≤ u.1 8 by omega, show w.1 6 - 1 ≤ u.1 6 by omega, ?_, fun g hg => (a5 g hg).trans (p4 g hg), a6.trans p5, fun k k1 k2 k3 => ?_⟩ (show (w.1 8).toNat < _ by omega)
        · show w.1 11 ≤ u.1 11
          rw [a2]; split <;> omega
        · show (if k = 6 then w.1 6 - 1 else w.1 k) = _
          rw [if_neg k1]
          exact (a4 k k1 k2 k3).trans (p6 k k1 k2 k3)
    refine br_i (fun hd => ?_) (fun hd => ?_)
    · have hd : v.2.1 0 (v.1 8 - 1) ≠ -2 := hd
      refine fin _ rfl (by rw [if_neg hd]; show v.1 11 = _; omega) rfl (fun k k1 k2 k3 => if_neg k2) (fun g hg => if_neg hg) rfl (fun j => rfl)
    · have hd : v.2.1 0 (v.1 8 - 1) = -2 := by
        have hd : ¬ v.2.1 0 (v.1 8 - 1) ≠ -2 := hd
        omega
      have hh := hsym hd
      have h11 := p1.2.2.2.1
      refine rd_i fun _ => ov_i (show -2147483648 ≤ v.1 11 - 1 by omega) (show v.1 11 - 1 < 2147483648 by omega) (sw_i ?_)
      refine fin _ rfl (by rw [if_pos hd]; rfl) rfl (fun k k1 k2 k3 => (if_neg k3).trans (if_neg k2)) (fun g hg => if_neg hg) rfl (fun j => rfl)
