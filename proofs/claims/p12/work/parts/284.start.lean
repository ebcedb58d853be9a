/-! the table while it is begun -/
def TIn (N : Int) (u : iST) : Prop := (0 ≤ N ∧ N ≤ u.1 8) ∧ u.1 8 ≤ 452000 ∧ u.1 6 ≤ 40000 ∧ u.1 11 ≤ 21000 ∧ u.1 6 = cnt (u.2.1 0) (-1) (u.1 8).toNat ∧ u.1 11 = cnt (u.2.1 0) (-2) (u.1 8).toNat ∧ (∀ k, 0 ≤ k → k < u.1 8 → NodeOk u k) ∧ (∀ h, 0 ≤ h → h < 8192 → HeadOk u h) ∧ (∀ k, 0 ≤ k → k < N → u.2.1 0 k = -2) ∧ ∀ j k, 0 ≤ j → j < k → k < u.1 8 → 0 ≤ u.2.1 0 j → u.2.1 0 k = u.2.1 0 j → u.2.1 1 k ≠ u.2.1 1 j
theorem TIn_new {N : Int} {u w : iST} {h : Int} (hT : TIn N u) (hn : u.1 8 < 452000) (e8 : w.1 8 = u.1 8 + 1) (h6 : w.1 6 ≤ 40000) (h11 : w.1 11 ≤ 21000)
    (c6 : w.1 6 = cnt (w.2.1 0) (-1) (u.1 8 + 1).toNat) (c11 : w.1 11 = cnt (w.2.1 0) (-2) (u.1 8 + 1).toNat)
    (a0 : ∀ k, 0 ≤ k → k < u.1 8 → w.2.1 0 k = u.2.1 0 k) (a1 : ∀ k, 0 ≤ k → k < u.1 8 → w.2.1 1 k = u.2.1 1 k) (a2 : ∀ k, 0 ≤ k → k < u.1 8 → w.2.1 2 k = u.2.1 2 k) (a4 : ∀ k, 0 ≤ k → k < u.1 8 → w.2.1 4 k = u.2.1 4 k)
    (hs : ∀ k, 0 ≤ k → k < u.1 8 → slotv w k = slotv u k) (hk : ∀ k, 0 ≤ k → k < u.1 8 → KindOk w k) (hkn : KindOk w (u.1 8)) (hh : 0 ≤ w.2.1 4 (u.1 8) ∧ w.2.1 4 (u.1 8) ≤ u.1 8)
    (h0 : 0 ≤ h) (h1 : h < 8192) (hsn : slotv w (u.1 8) = h) (a2n : w.2.1 2 (u.1 8) = u.2.1 7 h) (a7 : ∀ j, w.2.1 7 j = if j = h then u.1 8 else u.2.1 7 j)
    (huq : 0 ≤ w.2.1 0 (u.1 8) → ∀ j, 0 ≤ j → j < u.1 8 → u.2.1 0 j = w.2.1 0 (u.1 8) → u.2.1 1 j ≠ w.2.1 1 (u.1 8)) : TIn N w := by
  obtain ⟨t1, t2, t3, t4, t5, t6, t7, t8, t9, t10⟩ := hT
  refine ⟨by omega, by omega, h6, h11, by rw [e8]; exact c6, by rw [e8]; exact c11, ?_, ?_, ?_, ?_⟩
  · intro k k0 k1
    by_cases e : k = u.1 8
    · subst e
      obtain ⟨q1, q2, q3, q4⟩ := t8 h h0 h1
      refine ⟨hkn, hh.1, hh.2, by rw [a2n]; exact q1, by rw [a2n]; exact q2, ?_, ?_⟩
      · rw [a2n, hsn]
        rcases q3 with q3 | q3
        · exact Or.inl q3
        · rcases Int.lt_or_le (u.2.1 7 h) 0 with z | z
          · exact Or.inl (by omega)
          · exact Or.inr (by rw [hs _ z q2]; exact q3)
      · intro j j0 j1 hj
        rw [a2n]
        exact q4 j j0 j1 (by rw [← hs j j0 j1, hj, hsn])
    · have k2 : k < u.1 8 := by omega
      obtain ⟨q1, q2, q3, q4, q5, q6, q7⟩ := t7 k k0 k2
      refine ⟨hk k k0 k2, by rw [a4 k k0 k2]; exact q2, by rw [a4 k k0 k2]; exact q3, by rw [a2 k k0 k2]; exact q4, by rw [a2 k k0 k2]; exact q5, ?_, ?_⟩
      · rw [a2 k k0 k2, hs k k0 k2]
        rcases q6 with q6 | q6
        · exact Or.inl q6
        · rcases Int.lt_or_le (u.2.1 2 k) 0 with z | z
          · exact Or.inl (by omega)
          · exact Or.inr (by rw [hs _ z (by omega)]; exact q6)
      · intro j j0 j1 hj
        rw [a2 k k0 k2]
        exact q7 j j0 j1 (by rw [← hs j j0 (by omega), hj, hs k k0 k2])
  · intro g g0 g1
    obtain ⟨q1, q2, q3, q4⟩ := t8 g g0 g1
    unfold HeadOk
    rw [a7 g, e8]
    by_cases e : g = h
    · rw [if_pos e]
      refine ⟨by omega, by omega, Or.inr (by rw [hsn, e]), fun j j0 j1 _ => by omega⟩
    · rw [if_neg e]
      refine ⟨q1, by omega, ?_, ?_⟩
      · rcases q3 with q3 | q3
        · exact Or.inl q3
        · rcases Int.lt_or_le (u.2.1 7 g) 0 with z | z
          · exact Or.inl (by omega)
          · exact Or.inr (by rw [hs _ z q2]; exact q3)
      · intro j j0 j1 hj
        by_cases ej : j = u.1 8
        · subst ej
          exact absurd (hj.symm.trans hsn) e
        · exact q4 j j0 (by omega) (by rw [← hs j j0 (by omega)]; exact hj)
  · intro k k0 k1
    rw [a0 k k0 (by omega)]
    exact t9 k k0 k1
  · intro j k j0 jk k1 hl he
    by_cases e : k = u.1 8
    · subst e
      rw [a0 j j0 jk] at hl he
      rw [a1 j j0 jk]
      exact fun z => huq (by rw [he]; exact hl) j j0 jk he.symm z.symm
    · have k2 : k < u.1 8 := by omega
      rw [a0 j j0 (by omega)] at hl he
      rw [a0 k (by omega) k2] at he
      rw [a1 j j0 (by omega), a1 k (by omega) k2]
      exact t10 j k j0 jk k2 hl he
theorem TIn.node {N : Int} {u : iST} (hT : TIn N u) {k : Int} (k0 : 0 ≤ k) (k1 : k < u.1 8) : NodeOk u k := hT.2.2.2.2.2.2.1 k k0 k1
theorem TIn.head {N : Int} {u : iST} (hT : TIn N u) {k : Int} (k0 : 0 ≤ k) (k1 : k < 8192) : HeadOk u k := hT.2.2.2.2.2.2.2.1 k k0 k1
theorem TIn.kind {N : Int} {u : iST} (hT : TIn N u) {k : Int} (k0 : 0 ≤ k) (k1 : k < u.1 8) : KindOk u k := (hT.node k0 k1).1
theorem TIn.sym {N : Int} {u : iST} (hT : TIn N u) {k : Int} (k0 : 0 ≤ k) (k1 : k < u.1 8) (h : u.2.1 0 k = -2) : 0 ≤ u.2.1 1 k ∧ u.2.1 1 k < u.1 11 ∧ u.2.1 1 k < 21000 ∧ 0 ≤ u.2.1 10 (u.2.1 1 k) ∧ u.2.1 10 (u.2.1 1 k) ≤ 12 := by
  have hk := hT.kind k0 k1
  have h1 := hT.2.2.2.2.2.1
  have h2 := hT.2.2.2.1
  have h3 := cnt_lt (u.2.1 0) (n := (u.1 8).toNat) k0 (by omega) h
  have h4 := cnt_r (u.2.1 0) (-2) k.toNat
  unfold KindOk at hk
  omega
theorem s_isWordX {k : Int} {Q : Int → iST → Prop} {u : iST} (k0 : 0 ≤ k) (k1 : k < 21000) (w0 : 0 ≤ u.1 18) (w1 : u.1 18 ≤ 12) (h : ∀ r, bz r → (r ≠ 0 → u.2.1 10 k = u.1 18 ∧ ∀ i, 0 ≤ i → i < u.1 18 → u.2.1 9 (12 * k + i) = u.2.1 17 i) → Q r u) : w_isWord k Q u := by
  unfold w_isWord
  have key : ∀ y0, bz y0 → (y0 ≠ 0 → u.2.1 10 k = u.1 18) → w_isWord_18 Q k y0 u := by
    intro y0 hy hy2
    unfold w_isWord_18 w_isWord_21
    refine lf3 (B := fun R x1 x2 x3 u => w_isWord_21b R Q x1 x2 x3 u) (fun x1 x2 x3 v => v = u ∧ x1 = k ∧ bz x2 ∧ 0 ≤ x3 ∧ x3 ≤ u.1 18 ∧ (x2 ≠ 0 → u.2.1 10 k = u.1 18 ∧ ∀ i, 0 ≤ i → i < x3 → u.2.1 9 (12 * k + i) = u.2.1 17 i)) (fun _ _ x3 _ => (u.1 18 - x3).toNat) ?_ ⟨rfl, rfl, hy, by omega, w0, fun z => ⟨hy2 z, fun i i0 i1 => by omega⟩⟩
    intro x1 x2 x3 v hI R ih
    obtain ⟨rfl, rfl, q1, q2, q3, q4⟩ := hI
    unfold w_isWord_21b
    refine rd_i fun _ => br_i (fun hc => ⟨q1, h _ q1 (fun z => ⟨(q4 z).1, fun i i0 i1 => (q4 z).2 i i0 (by omega)⟩)⟩) (fun hc => br_i (fun hd => ⟨q1, h _ q1 (fun z => absurd hd z)⟩) (fun hd => ?_))
    refine ov_i (by omega) (by omega) (ov_i (by omega) (by omega) (bd_i (by omega) (by omega) (rd_i fun _ => bd_i q2 (by omega) (rd_i fun _ => br_i (fun _ => ov_i (by omega) (by omega) ?_) (fun heq => ov_i (by omega) (by omega) ?_)))))
    · exact ih _ _ _ _ ⟨rfl, rfl, Or.inl rfl, by omega, by omega, fun z => absurd rfl z⟩ (by omega)
    · exact ih _ _ _ _ ⟨rfl, rfl, Or.inr rfl, by omega, by omega, fun _ => ⟨(q4 hd).1, fun i i0 i1 => by
      by_cases e : i = x3
      · rw [e]; exact Classical.not_not.mp heq
      · exact (q4 hd).2 i i0 (by omega)⟩⟩ (by omega)
  exact bd_i k0 k1 (rd_i fun _ => rd_i fun _ => br_i (fun _ => key _ (Or.inl rfl) (fun z => absurd rfl z)) (fun hh => key _ (Or.inr rfl) (fun _ => Classical.not_not.mp hh)))
theorem g_symbolN {Q : Int → iST → Prop} {N : Int} {u : iST} (hT : TIn N u) (hn : u.1 8 < 452000) (hm : u.1 11 < 21000) (w0 : 0 ≤ u.1 18) (w1 : u.1 18 ≤ 12)
    (hno : ∀ k, 0 ≤ k → k < u.1 8 → u.2.1 0 k = -2 → u.2.1 10 (u.2.1 1 k) = u.1 18 → (∀ i, 0 ≤ i → i < u.1 18 → u.2.1 9 (12 * u.2.1 1 k + i) = u.2.1 17 i) → False)
    (hq : ∀ v, TIn N v → v.1 8 = u.1 8 + 1 → v.1 11 = u.1 11 + 1 → v.1 6 = u.1 6 → (∀ k, k < u.1 8 → v.2.1 0 k = u.2.1 0 k ∧ v.2.1 1 k = u.2.1 1 k) → (v.2.1 0 (u.1 8) = -2 ∧ v.2.1 1 (u.1 8) = u.1 11) → (∀ i, v.2.1 10 i = if i = u.1 11 then u.1 18 else u.2.1 10 i) → (∀ i, i < 12 * u.1 11 → v.2.1 9 i = u.2.1 9 i) → (∀ i, 0 ≤ i → i < u.1 18 → v.2.1 9 (12 * u.1 11 + i) = u.2.1 17 i) → Fx fT u v → v.2.2 = u.2.2 → ((∀ k, v.2.1 3 k = if k = u.1 8 then 0 else u.2.1 3 k) ∧ ∀ k, v.2.1 4 k = if k = u.1 8 then 0 else u.2.1 4 k) → Q (u.1 8) v) : w_symbol Q u := by
  have h8 := hT.1
  have hc11 := hT.2.2.2.2.2.1
  have hcr := cnt_r (u.2.1 0) (-2) (u.1 8).toNat
  unfold w_symbol
  generalize hF : (fun i => if (1 : Int) = 0 then u.2.1 9 (0 + i) else u.2.1 17 i) = f
  have hr := wand_8191 (hashF f (u.1 18).toNat)
  have hr0 : 0 ≤ spellF f (u.1 18) := hr.1
  have hr1 : spellF f (u.1 18) < 8192 := hr.2
  refine rd_i fun _ => s_spelled w0 w1 (fun z => absurd z (by decide)) ?_
  rw [hF]
  refine bd_i hr0 hr1 (rd_i fun _ => ?_)
  unfold w_symbol_18
  have hh := hT.head hr0 hr1
  refine lf2 (B := fun R x1 x2 u => w_symbol_18b R Q x1 x2 u) (fun x1 x2 v => v = u ∧ x1 = spellF f (u.1 18) ∧ -1 ≤ x2 ∧ x2 < u.1 8) (fun _ x2 _ => (x2 + 1).toNat) ?_ ⟨rfl, rfl, hh.1, hh.2.1⟩
  intro x1 x2 v hI R ih
  obtain ⟨rfl, rfl, q1, q2⟩ := hI
  unfold w_symbol_18b
  refine br_i (fun hc => ?_) (fun hc => ?_)
  · refine rd_i fun _ => rd_i fun _ => bd_i (by omega) hm (sw_i ?_)
    unfold w_symbol_74
    refine lf2 (B := fun R x1 x2 u => w_symbol_74b R Q x1 x2 u) (fun x1 x2 w => x1 = spellF f (v.1 18) ∧ 0 ≤ x2 ∧ x2 ≤ v.1 18 ∧ w.1 = v.1 ∧ w.2.2 = v.2.2 ∧ (∀ g, g ≠ 9 → g ≠ 10 → w.2.1 g = v.2.1 g) ∧ (∀ i, w.2.1 10 i = if i = v.1 11 then v.1 18 else v.2.1 10 i) ∧ (∀ i, i < 12 * v.1 11 → w.2.1 9 i = v.2.1 9 i) ∧ ∀ i, 0 ≤ i → i < x2 → w.2.1 9 (12 * v.1 11 + i) = v.2.1 17 i) (fun _ x2 _ => (v.1 18 - x2).toNat) ?_ ⟨rfl, by omega, w0, rfl, rfl, fun g _ g10 => if_neg g10, fun i => rfl, fun i _ => rfl, fun i i0 i1 => by omega⟩
    intro x1 x2 w hI R2 ih2
    obtain ⟨rfl, p0, p1, p2, p3, p4, p5, p6, p7⟩ := hI
    have e18 : w.1 18 = v.1 18 := congrFun p2 18
    have e11 : w.1 11 = v.1 11 := congrFun p2 11
    have e8 : w.1 8 = v.1 8 := congrFun p2 8
    have e6 : w.1 6 = v.1 6 := congrFun p2 6
    unfold w_symbol_74b
    refine rd_i fun _ => br_i (fun hd => ?_) (fun hd => ?_)
    · refine rd_i fun _ => ov_i (by omega) (by omega) (sw_i (rd_i fun _ => ov_i (show -2147483648 ≤ w.1 11 + 1 - 1 by omega) (show w.1 11 + 1 - 1 < 2147483648 by omega) ?_))
      have e : w.1 11 + 1 - 1 = v.1 11 := by omega
      show w_added (-2) (w.1 11 + 1 - 1) _ _ _
      rw [e]
      refine s_added (show 0 ≤ w.1 8 by omega) (show w.1 8 < 452000 by omega) hr0 hr1 (fun z => absurd z (by omega)) ?_
      show Q (w.1 8) (uAdd (iI w 11 (w.1 11 + 1)) (-2) (v.1 11) (spellF f (v.1 18)) 0)
      generalize hz : uAdd (iI w 11 (w.1 11 + 1)) (-2) (v.1 11) (spellF f (v.1 18)) 0 = z
      have z0 : ∀ k, z.2.1 0 k = if k = v.1 8 then -2 else v.2.1 0 k := fun k => by rw [← hz, uAdd_0]; show (if k = w.1 8 then _ else w.2.1 0 k) = _; rw [e8, p4 0 (by decide) (by decide)]
      have z1 : ∀ k, z.2.1 1 k = if k = v.1 8 then v.1 11 else v.2.1 1 k := fun k => by rw [← hz, uAdd_1]; show (if k = w.1 8 then _ else w.2.1 1 k) = _; rw [e8, p4 1 (by decide) (by decide)]
      have z2 : ∀ k, z.2.1 2 k = if k = v.1 8 then v.2.1 7 (spellF f (v.1 18)) else v.2.1 2 k := fun k => by rw [← hz, uAdd_2]; show (if k = w.1 8 then w.2.1 7 _ else w.2.1 2 k) = _; rw [e8, p4 2 (by decide) (by decide), p4 7 (by decide) (by decide)]
      have z3 : ∀ k, z.2.1 3 k = if k = v.1 8 then 0 else v.2.1 3 k := fun k => by rw [← hz, uAdd_3]; show (if k = w.1 8 then _ else w.2.1 3 k) = _; rw [e8, p4 3 (by decide) (by decide)]
      have z4 : ∀ k, z.2.1 4 k = if k = v.1 8 then 0 else v.2.1 4 k := fun k => by rw [← hz, uAdd_4]; show (if k = w.1 8 then _ else w.2.1 4 k) = _; rw [e8, p4 4 (by decide) (by decide)]
      have z7 : ∀ k, z.2.1 7 k = if k = spellF f (v.1 18) then v.1 8 else v.2.1 7 k := fun k => by rw [← hz, uAdd_7]; show (if k = _ then w.1 8 else w.2.1 7 k) = _; rw [e8, p4 7 (by decide) (by decide)]
      have z9 : z.2.1 9 = w.2.1 9 := by rw [← hz]; exact uAdd_g (by decide)
      have z10 : z.2.1 10 = w.2.1 10 := by rw [← hz]; exact uAdd_g (by decide)
      have zL : z.2.2 = v.2.2 := by rw [← hz]; exact p3
      have zs : ∀ k, z.1 k = if k = 8 then v.1 8 + 1 else if k = 11 then v.1 11 + 1 else v.1 k := fun k => by rw [← hz, uAdd_s]; show (if k = 8 then w.1 8 + 1 else if k = 11 then w.1 11 + 1 else w.1 k) = _; rw [e8, e11, p2]
      have s8 : z.1 8 = v.1 8 + 1 := by rw [zs]; rfl
      have s11 : z.1 11 = v.1 11 + 1 := by rw [zs]; rfl
      have s6 : z.1 6 = v.1 6 := by rw [zs]; rfl
      have hTz : TIn N z := by
        refine TIn_new (h := spellF f (v.1 18)) hT hn s8 (by rw [s6]; exact hT.2.2.1) (by rw [s11]; omega) ?_ ?_ (fun k _ hk => by rw [z0, if_neg (by omega)]) (fun k _ hk => by rw [z1, if_neg (by omega)]) (fun k _ hk => by rw [z2, if_neg (by omega)]) (fun k _ hk => by rw [z4, if_neg (by omega)]) ?_ ?_ ?_ (by rw [z4, if_pos rfl]; omega) hr0 hr1 ?_ (by rw [z2, if_pos rfl]) z7 ?_
        · rw [cnt_last (by omega), z0, if_pos rfl, if_neg (by omega), cnt_congr (g := v.2.1 0) _ (fun i i0 i1 => by rw [z0, if_neg (by omega)]), s6]
          have := hT.2.2.2.2.1
          omega
        · rw [cnt_last (by omega), z0, if_pos rfl, if_pos rfl, cnt_congr (g := v.2.1 0) _ (fun i i0 i1 => by rw [z0, if_neg (by omega)]), s11]
          omega
        · intro k k0 k1
          refine slotv_congr (by rw [z0, if_neg (by omega)]) (by rw [z1, if_neg (by omega)]) (fun _ => by rw [zL]) (fun hk => ?_)
          have hy := hT.sym k0 k1 hk
          refine ⟨by rw [z10, p5, if_neg (by omega)], fun i i0 i1 => by rw [z9, p6 _ (by omega)]⟩
        · intro k k0 k1
          refine kind_congr (hT.kind k0 k1) k0 (fun j _ hj => by rw [z0, if_neg (by omega)]) (by rw [z1, if_neg (by omega)]) (fun _ => by rw [zL]) (fun hk => ?_)
          have hy := hT.sym k0 k1 hk
          rw [z10, p5, if_neg (by omega)]
        · refine Or.inr (Or.inl ⟨by rw [z0, if_pos rfl], ?_, ?_, ?_⟩)
          · rw [z1, if_pos rfl, cnt_congr (g := v.2.1 0) _ (fun i i0 i1 => by rw [z0, if_neg (by omega)])]
            exact hc11
          · rw [z1, if_pos rfl, z10, p5, if_pos rfl]; exact w0
          · rw [z1, if_pos rfl, z10, p5, if_pos rfl]; exact w1
        · unfold slotv
          rw [z0, z1, if_pos rfl, if_pos rfl, if_neg (by omega), if_pos rfl, z10, p5, if_pos rfl]
          unfold spellF
          rw [hashF_congr (g := f) _ (fun i i0 i1 => ?_)]
          rw [z9, p7 i i0 (by omega), ← hF]
          rfl
        · intro z9
          rw [z0, if_pos rfl] at z9
          omega
      rw [e8]
      refine hq _ hTz s8 s11 s6 (fun k hk => ⟨by rw [z0, if_neg (by omega)], by rw [z1, if_neg (by omega)]⟩) ⟨by rw [z0, if_pos rfl], by rw [z1, if_pos rfl]⟩ (fun i => by rw [z10, p5]) (fun i hi => by rw [z9, p6 i hi]) (fun i i0 i1 => by rw [z9, p7 i i0 (by omega)]) (fun j hj => ?_) zL ⟨z3, z4⟩
      have hj2 : ¬ j ≤ 11 := by simpa [fT] using hj
      refine ⟨by rw [zs, if_neg (by omega), if_neg (by omega)], ?_⟩
      rw [← hz, uAdd_g ⟨by omega, by omega, by omega, by omega, by omega, by omega⟩]
      exact p4 j (by omega) (by omega)
    · refine rd_i fun _ => ov_i (by omega) (by omega) (ov_i (by omega) (by omega) (bd_i p0 (by omega) (rd_i fun _ => bd_i (by omega) (by omega) (sw_i (ov_i (by omega) (by omega) ?_)))))
      refine ih2 _ _ _ ⟨rfl, by omega, by omega, p2, p3, fun g g9 g10 => (if_neg g9).trans (p4 g g9 g10), p5, fun i hi => ?_, fun i i0 i1 => ?_⟩ (by omega)
      · show (if i = 12 * w.1 11 + x2 then _ else w.2.1 9 i) = _
        rw [if_neg (by omega), p6 i hi]
      · show (if 12 * v.1 11 + i = 12 * w.1 11 + x2 then w.2.1 17 x2 else w.2.1 9 (12 * v.1 11 + i)) = _
        by_cases e : i = x2
        · rw [if_pos (by omega), p4 17 (by decide) (by decide), e]
        · rw [if_neg (by omega), p7 i i0 (by omega)]
  · have nx := hT.node (k := x2) (by omega) q2
    have goon : w_symbol_49 R Q (spellF f (v.1 18)) x2 v := by
      unfold w_symbol_49
      refine bd_i (by omega) (by omega) (rd_i fun _ => ?_)
      refine ih _ _ _ ⟨rfl, rfl, nx.2.2.2.1, by have := nx.2.2.2.2.1; omega⟩ ?_
      have := nx.2.2.2.1; have := nx.2.2.2.2.1
      omega
    refine bd_i (by omega) (by omega) (rd_i fun _ => br_i (fun _ => goon) (fun hd => bd_i (by omega) (by omega) (rd_i fun _ => ?_)))
    have hd : v.2.1 0 x2 = -2 := by omega
    have hv := hT.sym (k := x2) (by omega) q2 hd
    refine s_isWordX hv.1 hv.2.2.1 w0 w1 fun r hr hx => br_i (fun _ => goon) (fun he => ?_)
    exact absurd (hx he) (fun z => hno x2 (by omega) q2 hd z.1 z.2)
/-! the 44 symbols at the start -/
def kw : List (List Int) := [[110, 105, 108], [116], [113, 117, 111, 116, 101], [105, 102], [101, 113, 117, 97, 108], [99, 111, 110, 115], [105, 109, 112, 108, 105, 101, 115], [43], [45], [60], [99, 111, 110, 115, 112], [99, 97, 114], [99, 100, 114], [110, 97, 116, 112], [115, 121, 109, 98, 111, 108, 112], [110, 111, 116], [104, 101, 105, 103, 104, 116], [100, 101, 102, 117, 110], [116, 104, 101, 111, 114, 101, 109], [101, 118, 97, 108], [115, 105, 109, 112, 108, 105, 102, 121], [112, 114, 111, 118, 101], [100, 101, 102, 116, 104, 109], [111, 110], [111, 102, 102], [117, 110, 100, 111], [99, 104, 101, 99, 107], [105, 110, 100, 117, 99, 116], [117, 115, 101], [116, 97, 117, 116], [115, 97, 109, 101], [118, 97, 108, 117, 101], [102, 105, 114, 115, 116], [115, 101, 99, 111, 110, 100], [112, 97, 105, 114], [121, 101, 115], [110, 111], [100, 101, 102], [116, 104, 109], [119, 101, 97, 107], [99, 117, 116], [105, 110, 115, 116], [115, 119, 97, 112], [112, 117, 116]]
def stU : iST := (fun k => if k = 25 then -1 else if k = 57 then -1 else if k = 59 then 1000 else 0, fun _ _ => 0, fun _ => 0)
def fSt (k : Nat) : Bool := decide (k ≤ 11) || decide (k = 17) || decide (k = 18)
def SN (n : Nat) (u : iST) : Prop := TIn n u ∧ u.1 8 = n ∧ u.1 11 = n ∧ u.1 6 = 0 ∧ Fx fSt stU u ∧ ∀ k : Nat, k < n → (u.2.1 0 k = -2 ∧ u.2.1 3 k = 0 ∧ u.2.1 4 k = 0) ∧ u.2.1 1 k = k ∧ u.2.1 10 k = ((kw.getD k []).length : Int) ∧ ∀ i : Nat, i < (kw.getD k []).length → u.2.1 9 (12 * k + i) = (kw.getD k []).getD i 0
def adW (l : List Int) (a : Int) : List Int := if a = 0 then l else l ++ [a]
theorem adW_len (l : List Int) (a : Int) : (adW l a).length ≤ l.length + 1 := by
  unfold adW
  split
  · omega
  · rw [List.length_append]; exact Nat.le_refl _
def WD (u : iST) (l : List Int) (w : iST) : Prop := (∀ g, g ≠ 18 → w.1 g = u.1 g) ∧ (∀ g, g ≠ 17 → w.2.1 g = u.2.1 g) ∧ w.2.2 = u.2.2 ∧ w.1 18 = (l.length : Int) ∧ ∀ i : Nat, i < l.length → w.2.1 17 i = l.getD i 0
theorem s_spellW {u w : iST} {l : List Int} {a : Int} {Q : iST → Prop} (h : WD u l w) (hl : l.length < 12) (hq : ∀ z, WD u (adW l a) z → Q z) : w_spell a Q w := by
  obtain ⟨h1, h2, h3, h4, h5⟩ := h
  unfold w_spell
  refine br_i (fun ha => rd_i fun _ => bd_i (by omega) (by omega) (sw_i (rd_i fun _ => ov_i (show -2147483648 ≤ w.1 18 + 1 by omega) (show w.1 18 + 1 < 2147483648 by omega) (sw_i (hq _ ?_))))) fun ha => hq w ?_
  · have e : adW l a = l ++ [a] := if_neg ha
    rw [e]
    refine ⟨fun g hg => (if_neg hg).trans (h1 g hg), fun g hg => ?_, h3, ?_, fun i hi => ?_⟩
    · show (if g = 17 then _ else w.2.1 g) = _
      rw [if_neg hg]; exact h2 g hg
    · show w.1 18 + 1 = _
      rw [List.length_append, h4]; rfl
    · show (if (i : Int) = w.1 18 then a else w.2.1 17 i) = _
      rw [List.length_append] at hi
      have hi : i < l.length + 1 := hi
      by_cases q : i = l.length
      · rw [if_pos (by omega), q, List.getD_eq_getElem?_getD, List.getElem?_append_right (Nat.le_refl _), Nat.sub_self]; rfl
      · rw [if_neg (by omega), h5 i (by omega), List.getD_eq_getElem?_getD, List.getD_eq_getElem?_getD, List.getElem?_append_left (by omega)]
  · have e : adW l a = l := if_pos (Classical.not_not.mp ha)
    rw [e]
    exact ⟨h1, h2, h3, h4, h5⟩
theorem getD_ext {l m : List Int} (h : l.length = m.length) (h2 : ∀ i : Nat, i < l.length → l.getD i 0 = m.getD i 0) : l = m := by
  refine List.ext_getElem h (fun i hi hj => ?_)
  have q := h2 i hi
  rw [List.getD_eq_getElem?_getD, List.getD_eq_getElem?_getD, List.getElem?_eq_getElem hi, List.getElem?_eq_getElem hj] at q
  exact q
set_option maxRecDepth 100000 in
theorem kw_len : ∀ k, k < 44 → (kw.getD k []).length ≤ 12 := by decide
set_option maxRecDepth 100000 in
theorem kw_neq : ∀ n, n < 44 → ∀ k, k < n → kw.getD k [] ≠ kw.getD n [] := by decide
theorem TIn_eq {N : Int} {u w : iST} (hT : TIn N u) (hs : ∀ g, g ≤ 11 → w.1 g = u.1 g ∧ w.2.1 g = u.2.1 g) (hL : w.2.2 = u.2.2) : TIn N w := by
  have e0 := (hs 0 (by decide)).2
  have e1 := (hs 1 (by decide)).2
  have e2 := (hs 2 (by decide)).2
  have e4 := (hs 4 (by decide)).2
  have e7 := (hs 7 (by decide)).2
  have e9 := (hs 9 (by decide)).2
  have e10 := (hs 10 (by decide)).2
  have e6 := (hs 6 (by decide)).1
  have e8 := (hs 8 (by decide)).1
  have e11 := (hs 11 (by decide)).1
  unfold TIn NodeOk HeadOk KindOk slotv at *
  rw [e0, e1, e2, e4, e7, e9, e10, e6, e8, e11, hL]
  exact hT
theorem g_said {n : Nat} {a0 a1 a2 a3 a4 a5 a6 a7 : Int} {u : iST} {Q : iST → Prop} (h : SN n u) (hn : n < 44) (hw : adW (adW (adW (adW (adW (adW (adW (adW [] a0) a1) a2) a3) a4) a5) a6) a7 = kw.getD n []) (hq : ∀ v, SN (n + 1) v → Q v) : w_said a0 a1 a2 a3 a4 a5 a6 a7 Q u := by
  unfold w_said
  have l1 := adW_len [] a0
  have l2 := adW_len (adW [] a0) a1
  have l3 := adW_len (adW (adW [] a0) a1) a2
  have l4 := adW_len (adW (adW (adW [] a0) a1) a2) a3
  have l5 := adW_len (adW (adW (adW (adW [] a0) a1) a2) a3) a4
  have l6 := adW_len (adW (adW (adW (adW (adW [] a0) a1) a2) a3) a4) a5
  have l7 := adW_len (adW (adW (adW (adW (adW (adW [] a0) a1) a2) a3) a4) a5) a6
  have l0 : ([] : List Int).length = 0 := rfl
  refine sw_i (s_spellW (l := []) (u := u) ⟨fun g hg => if_neg hg, fun _ _ => rfl, rfl, rfl, fun i hi => absurd hi (Nat.not_lt_zero i)⟩ (by omega) fun _ hz => s_spellW hz (by omega) fun _ hz => s_spellW hz (by omega) fun _ hz => s_spellW hz (by omega) fun _ hz => s_spellW hz (by omega) fun _ hz => s_spellW hz (by omega) fun _ hz => s_spellW hz (by omega) fun _ hz => s_spellW hz (by omega) fun w hW => ?_)
  rw [hw] at hW
  obtain ⟨h1, h2, h3, h4, h5⟩ := hW
  obtain ⟨s1, s2, s3, s4, s5, s6⟩ := h
  have kl := kw_len n hn
  have w8 := h1 8 (by decide)
  have w11 := h1 11 (by decide)
  have w6 := h1 6 (by decide)
  have r0 := h2 0 (by decide)
  have r1 := h2 1 (by decide)
  have r9 := h2 9 (by decide)
  have r10 := h2 10 (by decide)
  have wT : TIn n w := TIn_eq s1 (fun g hg => ⟨h1 g (by omega), h2 g (by omega)⟩) h3
  refine g_symbolN wT (by omega) (by omega) (by omega) (by omega) (fun k k0 k1 q1 q2 q3 => ?_) fun v v1 v2 v3 v4 v5 v6 v7 v8 v9 v10 v11 v12 => hq v ?_
  · obtain ⟨k, rfl⟩ : ∃ j : Nat, k = j := ⟨k.toNat, by omega⟩
    have hk : k < n := by omega
    obtain ⟨b1, b2, b3, b4⟩ := s6 k hk
    rw [r10, r1, b2] at q2
    rw [r1, b2, r9] at q3
    refine kw_neq n hn k hk (getD_ext (by omega) (fun i hi => ?_))
    rw [← b4 i hi, q3 i (by omega) (by omega)]
    exact h5 i (by omega)
  · obtain ⟨t1, t2⟩ := v1
    refine ⟨⟨⟨by omega, by omega⟩, ?_⟩, by omega, by omega, by omega, ?_, fun k hk => ?_⟩
    · obtain ⟨c1, c2, c3, c4, c5, c6, c7, c8, c9⟩ := t2
      refine ⟨c1, c2, c3, c4, c5, c6, c7, fun k k0 k1 => ?_, c9⟩
      by_cases e : k = w.1 8
      · rw [e]; exact v6.1
      · exact c8 k k0 (by omega)
    · intro g hg
      have hg2 : ¬ g ≤ 11 ∧ g ≠ 17 ∧ g ≠ 18 := by simp [fSt] at hg; omega
      have q := v10 g (by simp [fT]; omega)
      have p := s5 g hg
      exact ⟨q.1.trans ((h1 g hg2.2.2).trans p.1), q.2.trans ((h2 g hg2.2.1).trans p.2)⟩
    · by_cases e : k = n
      · subst e
        have e8 : w.1 8 = (k : Int) := by omega
        have e11 : w.1 11 = (k : Int) := by omega
        rw [e8] at v6
        rw [e11] at v6 v9
        refine ⟨⟨v6.1, (v12.1 k).trans (if_pos e8.symm), (v12.2 k).trans (if_pos e8.symm)⟩, v6.2, by rw [v7, if_pos e11.symm]; exact h4, fun i hi => ?_⟩
        rw [v9 i (by omega) (by omega)]
        exact h5 i hi
      · have hk2 : k < n := by omega
        obtain ⟨b1, b2, b3, b4⟩ := s6 k hk2
        have q := v5 k (by omega)
        have kl2 := kw_len k (by omega)
        refine ⟨⟨by rw [q.1, r0]; exact b1.1, ((v12.1 k).trans (if_neg (by omega))).trans (by rw [h2 3 (by decide)]; exact b1.2.1), ((v12.2 k).trans (if_neg (by omega))).trans (by rw [h2 4 (by decide)]; exact b1.2.2)⟩, by rw [q.2, r1]; exact b2, by rw [v7, if_neg (by omega), r10]; exact b3, fun i hi => ?_⟩
        rw [v8 _ (by omega), r9]
        exact b4 i hi
/-- the house as it is new -/
theorem SN.hi {u : iST} (h : SN 44 u) : HI u 0 ∧ u.1 59 = 1000 ∧ u.1 14 = 0 := by
  obtain ⟨s1, s2, s3, s4, s5, s6⟩ := h
  have f : ∀ k, fSt k = false → u.1 k = stU.1 k := fun k hk => (s5 k hk).1
  have g : ∀ k, fSt k = false → u.2.1 k = fun _ => 0 := fun k hk => (s5 k hk).2
  have T : TI u := ⟨s1.1.2, s1.2⟩
  have n35 : u.1 35 = 0 := f 35 rfl
  have n42 : u.1 42 = 0 := f 42 rfl
  have n57 : u.1 57 = -1 := f 57 rfl
  have n54 : u.1 54 = 0 := f 54 rfl
  have n16 : u.1 16 = 0 := f 16 rfl
  have n22 : u.1 22 = 0 := f 22 rfl
  have n14 : u.1 14 = 0 := f 14 rfl
  have n59 : u.1 59 = 1000 := f 59 rfl
  have z : ∀ i : Int, (0 : Int) ≤ 0 ∧ (0 : Int) ≤ 255 := fun _ => by decide
  refine ⟨⟨T, ⟨⟨by omega, by omega⟩, ⟨by omega, by omega⟩, n57, fun d d0 d1 => by omega, fun d d0 d1 => by omega⟩, f 69 rfl, f 71 rfl, ⟨by omega, by omega, by omega, by omega⟩, ⟨by omega, by omega⟩, ⟨by omega, by omega⟩, fun i => by rw [g 13 rfl]; exact z i, fun i => by rw [g 12 rfl]; exact z i, by omega, ?_, ?_, ⟨fun _ => u, ⟨fun j hj => by omega, fun i j _ hj => by omega⟩⟩, by omega, by omega, by omega⟩, n59, n14⟩
  · rw [n54, n35]; rfl
  · rw [n54, n42]; rfl
