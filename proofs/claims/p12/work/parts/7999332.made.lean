/-! the class: nodes are made and forgotten -/
theorem sw_e {S : Type} {u : S} {P : S → Prop} (h : ∀ w, w = u → P w) : sw u P := h
theorem RM_new {u w : iST} {cell S K : Int} (hT : RT u) (hn : u.1 29 < 160000) (hc : cell < 0 → cL cell < u.1 29 ∧ cR cell < u.1 29) (h1 : ∀ k, w.1 k = if k = 29 then u.1 29 + 1 else u.1 k) (hL : ∀ i, w.2.2 i = if i = u.1 29 then cell else u.2.2 i) (h27 : ∀ i, w.2.1 27 i = if i = u.1 29 then u.2.1 30 (cSl cell) else u.2.1 27 i) (h30 : ∀ i, w.2.1 30 i = if i = cSl cell then u.1 29 else u.2.1 30 i) (h28 : ∀ i, w.2.1 28 i = if i = u.1 29 then S else u.2.1 28 i) (h29 : ∀ i, w.2.1 29 i = if i = u.1 29 then K else u.2.1 29 i) (hr : ∀ k, k ∉ mR → w.2.1 k = u.2.1 k) (S0 : 0 ≤ S) (S1 : S ≤ 1000000) (K0 : 0 ≤ K) (K1 : K ≤ u.1 29) : RM u w := by
  obtain ⟨t1, t2, t3, t4⟩ := hT
  have w29 : w.1 29 = u.1 29 + 1 := by rw [h1, if_pos rfl]
  have w32 : w.1 32 = u.1 32 := by rw [h1, if_neg (by decide)]
  have sr := cSl_r cell
  refine ⟨⟨⟨by omega, by omega⟩, fun j hj => ?_, fun j j0 j1 => ?_, fun h g0 g1 => ?_⟩, ⟨by omega, fun i i0 i1 => by rw [hL, if_neg (by omega)]⟩, ⟨⟨fun k hk => ?_, hr⟩, Sp.eq (by rw [h1, if_neg (by decide)]) (by rw [h1, if_neg (by decide)])⟩, fun z => by omega⟩
  · obtain ⟨a, b, d⟩ := hj
    rw [hL] at d ⊢
    by_cases e : j = u.1 29
    · rw [if_pos e] at d ⊢
      have := hc d
      omega
    · rw [if_neg e] at d ⊢
      exact t2 j ⟨a, by omega, d⟩
  · rw [h27, h28, h29, hL, hL]
    by_cases e : j = u.1 29
    · rw [if_pos e, if_pos e, if_pos e, if_pos e]
      obtain ⟨q1, q2, q3⟩ := t4 (cSl cell) sr.1 sr.2
      refine ⟨q1, by omega, ?_, S0, S1, K0, by omega⟩
      rcases q3 with z | z
      · exact Or.inl z
      · exact Or.inr (by rw [if_neg (by omega)]; exact z)
    · rw [if_neg e, if_neg e, if_neg e, if_neg e]
      obtain ⟨q1, q2, q3, q4⟩ := t3 j j0 (by omega)
      refine ⟨q1, q2, ?_, q4⟩
      rcases q3 with z | z
      · exact Or.inl z
      · exact Or.inr (by rw [if_neg (by omega)]; exact z)
  · rw [h30, w29]
    by_cases e : h = cSl cell
    · rw [if_pos e]
      exact ⟨by omega, by omega, Or.inr (by rw [hL, if_pos rfl]; exact e.symm)⟩
    · rw [if_neg e]
      obtain ⟨q1, q2, q3⟩ := t4 h g0 g1
      refine ⟨q1, by omega, ?_⟩
      rcases q3 with z | z
      · exact Or.inl z
      · exact Or.inr (by rw [hL, if_neg (by omega)]; exact z)
  · rw [h1, if_neg (fun e => hk (by rw [e]; decide))]
theorem RM_t {u : iST} (hT : RT u) {x : Int} (h : x ≠ 0) : RM u (iI u 32 x) := by
  refine ⟨hT, Ce.rf u, ⟨⟨fun k hk => if_neg (fun e => hk (by rw [e]; decide)), fun _ _ => rfl⟩, Sp.eq rfl rfl⟩, fun z => ?_⟩
  have z : x = 0 := z
  exact absurd z h
theorem j_made {u : iST} {cell : Int} {Q : Int → iST → Prop} (hT : RT u) (hc : cell < 0 → cL cell < u.1 29 ∧ cR cell < u.1 29) (hq : ∀ t v, RM u v → 0 ≤ t → t < v.1 29 → (v.2.2 t = cell ∨ v.1 32 ≠ 0) → Q t v) : v_7_made cell Q u := by
  have h44 := hT.1.1
  have hm := hT.1.2
  have sr := cSl_r cell
  have t4 := hT.2.2.2 (cSl cell) sr.1 sr.2
  unfold v_7_made
  refine rl_i fun _ => rl_i fun _ => rd_i fun _ => ?_
  show bd (cSl cell) 32768 (rd (u.2.1 30 (cSl cell)) fun v4 => v_7_made_18 Q cell (cSl cell) v4 u)
  refine bd_i sr.1 sr.2 (rd_i fun _ => ?_)
  unfold v_7_made_18
  refine lf3 (B := fun R x1 x3 x4 u => v_7_made_18b R Q x1 x3 x4 u) (fun x1 x3 x4 v => cell = x1 ∧ cSl cell = x3 ∧ u = v ∧ -1 ≤ x4 ∧ x4 < u.1 29) (fun _ _ x4 _ => (x4 + 1).toNat) ?_ ⟨rfl, rfl, rfl, t4.1, t4.2.1⟩
  intro x1 x3 x4 v hI R ih
  obtain ⟨rfl, rfl, rfl, p1, p2⟩ := hI
  unfold v_7_made_18b
  refine br_i (fun hneg => rd_i fun _ => br_i (fun hn => ?_) fun _ => ?_) fun hpos => ?_
  · -- a new node
    refine rd_i fun _ => rd_i fun _ => ov_i (by omega) (by omega) (sw_e fun w1 q1 => bd_i (by omega) (by omega) (sw_e fun w2 q2 => bd_i sr.1 sr.2 (rd_i fun _ => bd_i (by omega) (by omega) (sw_e fun w3 q3 => bd_i sr.1 sr.2 (sw_e fun w4 q4 => bd_i (by omega) (by omega) (sw_e fun w5 q5 => bd_i (by omega) (by omega) (sw_e fun z q6 => rl_i fun _ => rd_i fun _ => rd_i fun _ => rd_i fun _ => rd_i fun _ => ?_)))))))
    have g1 : ∀ k, w1.1 k = if k = 29 then u.1 29 + 1 else u.1 k := fun k => by rw [q1]; rfl
    have g2 : w1.2 = u.2 := by rw [q1]; rfl
    have s2 : w2.1 = w1.1 ∧ w2.2.1 = w1.2.1 := by rw [q2]; exact ⟨rfl, rfl⟩
    have l2 : ∀ i, w2.2.2 i = if i = u.1 29 then cell else w1.2.2 i := fun i => by rw [q2]; rfl
    have s3 : w3.1 = w2.1 ∧ w3.2.2 = w2.2.2 ∧ (∀ k, k ≠ 27 → w3.2.1 k = w2.2.1 k) ∧ ∀ i, w3.2.1 27 i = if i = u.1 29 then w2.2.1 30 (cSl cell) else w2.2.1 27 i := by rw [q3]; exact ⟨rfl, rfl, fun k hk => if_neg hk, fun _ => rfl⟩
    have s4 : w4.1 = w3.1 ∧ w4.2.2 = w3.2.2 ∧ (∀ k, k ≠ 30 → w4.2.1 k = w3.2.1 k) ∧ ∀ i, w4.2.1 30 i = if i = cSl cell then u.1 29 else w3.2.1 30 i := by rw [q4]; exact ⟨rfl, rfl, fun k hk => if_neg hk, fun _ => rfl⟩
    have s5 : w5.1 = w4.1 ∧ w5.2.2 = w4.2.2 ∧ (∀ k, k ≠ 28 → w5.2.1 k = w4.2.1 k) ∧ ∀ i, w5.2.1 28 i = if i = u.1 29 then 0 else w4.2.1 28 i := by rw [q5]; exact ⟨rfl, rfl, fun k hk => if_neg hk, fun _ => rfl⟩
    have s6 : z.1 = w5.1 ∧ z.2.2 = w5.2.2 ∧ (∀ k, k ≠ 29 → z.2.1 k = w5.2.1 k) ∧ ∀ i, z.2.1 29 i = if i = u.1 29 then 0 else w5.2.1 29 i := by rw [q6]; exact ⟨rfl, rfl, fun k hk => if_neg hk, fun _ => rfl⟩
    clear q1 q2 q3 q4 q5 q6
    have u2 : w2.2.1 = u.2.1 := by rw [s2.2, g2]
    have z1 : ∀ k, z.1 k = if k = 29 then u.1 29 + 1 else u.1 k := fun k => by rw [s6.1, s5.1, s4.1, s3.1, s2.1]; exact g1 k
    have zL : ∀ i, z.2.2 i = if i = u.1 29 then cell else u.2.2 i := fun i => by rw [s6.2.1, s5.2.1, s4.2.1, s3.2.1, l2, g2]
    have z27 : ∀ i, z.2.1 27 i = if i = u.1 29 then u.2.1 30 (cSl cell) else u.2.1 27 i := fun i => by rw [s6.2.2.1 27 (by decide), s5.2.2.1 27 (by decide), s4.2.2.1 27 (by decide), s3.2.2.2, u2]
    have z30 : ∀ i, z.2.1 30 i = if i = cSl cell then u.1 29 else u.2.1 30 i := fun i => by rw [s6.2.2.1 30 (by decide), s5.2.2.1 30 (by decide), s4.2.2.2, s3.2.2.1 30 (by decide), u2]
    have z28 : ∀ i, z.2.1 28 i = if i = u.1 29 then 0 else u.2.1 28 i := fun i => by rw [s6.2.2.1 28 (by decide), s5.2.2.2, s4.2.2.1 28 (by decide), s3.2.2.1 28 (by decide), u2]
    have z29 : ∀ i, z.2.1 29 i = if i = u.1 29 then 0 else u.2.1 29 i := fun i => by rw [s6.2.2.2, s5.2.2.1 29 (by decide), s4.2.2.1 29 (by decide), s3.2.2.1 29 (by decide), u2]
    have zr : ∀ k, k ∉ mR → z.2.1 k = u.2.1 k := fun k hk => by
      have hk2 : ¬ (27 ≤ k ∧ k ≤ 30) := by
        intro q
        exact hk (by simp only [mR, List.mem_cons, List.not_mem_nil, or_false]; omega)
      rw [s6.2.2.1 k (by omega), s5.2.2.1 k (by omega), s4.2.2.1 k (by omega), s3.2.2.1 k (by omega), u2]
    clear g1 g2 s2 l2 s3 s4 s5 s6 u2
    have w29 : z.1 29 = u.1 29 + 1 := by rw [z1, if_pos rfl]
    have done : Q (u.1 29) z := hq _ z (RM_new hT hn hc z1 zL z27 z30 z28 z29 zr (Int.le_refl _) (by decide) (Int.le_refl _) (by omega)) (by omega) (by omega) (Or.inl (by rw [zL, if_pos rfl]))
    have rest : cell < 0 → ∀ S : Int, 0 ≤ S → S ≤ 1000000 → v_7_made_266 Q (u.1 29) (cL cell) (cR cell) (u.1 29) S z := by
      intro hneg2 S S0 S1
      have hcc := hc hneg2
      have r1 := cL_r cell
      have r2 := cR_r cell
      have n1 := hT.2.2.1 (cL cell) r1.1 hcc.1
      have n2 := hT.2.2.1 (cR cell) r2.1 hcc.2
      unfold v_7_made_266
      have q1 : (iA z 28 (u.1 29) S).2.1 29 = z.2.1 29 := rfl
      have fin : ∀ K, 0 ≤ K → K + 1 ≤ u.1 29 → v_7_made_308 Q (u.1 29) (u.1 29) 1 K (iA z 28 (u.1 29) S) := by
        intro K K0 K1
        unfold v_7_made_308
        refine ov_i (by omega) (by omega) (bd_i (by omega) (by omega) (sw_i ?_))
        generalize hw : iA (iA z 28 (u.1 29) S) 29 (u.1 29) (1 + K) = w
        have w1 : w.1 = z.1 := by rw [← hw]; rfl
        have wL : w.2.2 = z.2.2 := by rw [← hw]; rfl
        refine hq _ w (RM_new (S := S) (K := 1 + K) hT hn hc (fun k => by rw [w1]; exact z1 k) (fun i => by rw [wL]; exact zL i) (fun i => ?_) (fun i => ?_) (fun i => ?_) (fun i => ?_) (fun k hk => ?_) S0 S1 (by omega) (by omega)) (by omega) (by rw [w1]; omega) (Or.inl (by rw [wL, zL, if_pos rfl]))
        · rw [← hw]; exact z27 i
        · rw [← hw]; exact z30 i
        · rw [← hw]
          show (if i = u.1 29 then S else z.2.1 28 i) = _
          by_cases e : i = u.1 29
          · rw [if_pos e, if_pos e]
          · rw [if_neg e, if_neg e, z28, if_neg e]
        · rw [← hw]
          show (if i = u.1 29 then 1 + K else z.2.1 29 i) = _
          by_cases e : i = u.1 29
          · rw [if_pos e, if_pos e]
          · rw [if_neg e, if_neg e, z29, if_neg e]
        · have hk2 : ¬ (27 ≤ k ∧ k ≤ 30) := by
            intro q
            exact hk (by simp only [mR, List.mem_cons, List.not_mem_nil, or_false]; omega)
          rw [← hw]
          show (if k = 29 then _ else if k = 28 then _ else z.2.1 k) = u.2.1 k
          rw [if_neg (by omega), if_neg (by omega)]
          exact zr k hk
      have e1 : z.2.1 29 (cL cell) = u.2.1 29 (cL cell) := by rw [z29, if_neg (by omega)]
      have e2 : z.2.1 29 (cR cell) = u.2.1 29 (cR cell) := by rw [z29, if_neg (by omega)]
      refine bd_i (by omega) (by omega) (sw_i (bd_i r1.1 (by omega) (rd_i fun _ => bd_i r2.1 (by omega) (rd_i fun _ => ?_))))
      rw [q1, e1, e2]
      exact br_i (fun _ => bd_i r2.1 (by omega) (rd_i fun _ => fin _ (by omega) (by omega))) fun _ => bd_i r1.1 (by omega) (rd_i fun _ => fin _ (by omega) (by omega))
    have k235 : cell < 0 → ∀ y1 : Int, 0 ≤ y1 → y1 ≤ 1000000 → v_7_made_235 Q (u.1 29) (cL cell) (cR cell) 1 y1 z := by
      intro hneg2 y1 y0 yy
      have hcc := hc hneg2
      have r2 := cR_r cell
      have n2 := hT.2.2.1 (cR cell) r2.1 hcc.2
      have e2 : z.2.1 28 (cR cell) = u.2.1 28 (cR cell) := by rw [z28, if_neg (by omega)]
      unfold v_7_made_235
      refine ov_i (by omega) (by omega) (bd_i r2.1 (by omega) (rd_i fun _ => ?_))
      rw [e2]
      exact ov_i (by omega) (by omega) (br_i (fun _ => rest hneg2 _ (by decide) (by decide)) fun _ => rest hneg2 _ (by omega) (by omega))
    have k211 : cell < 0 → ∀ x7, v_7_made_211 Q (u.1 29) (cL cell) (cR cell) x7 z := by
      intro hneg2 x7
      unfold v_7_made_211 v_7_made_212
      exact br_y rfl (k235 hneg2 0 (by decide) (by decide))
    show br (0 ≤ cell) (Q (u.1 29) z) (br (u.1 29 ≤ cL cell) (Q (u.1 29) z) (br (u.1 29 ≤ cR cell) (Q (u.1 29) z) (bd (cL cell) 160000 (rl (z.2.2 (cL cell)) fun v15 => br (0 ≤ v15) (v_7_made_211 Q (u.1 29) (cL cell) (cR cell) v15 z) (rl (wlushr v15 31) fun v27 => rd (wl2i v27) fun v28 => rd (wand v28 2147483647) fun v29 => br (v29 = 2) (v_7_made_211 Q (u.1 29) (cL cell) (cR cell) v15 z) (v_7_made_212 Q (u.1 29) (cL cell) (cR cell) v15 1 z))))))
    refine br_i (fun _ => done) fun hneg2 => br_i (fun _ => done) fun h1 => br_i (fun _ => done) fun h2 => ?_
    have hneg2 : cell < 0 := by omega
    have r1 := cL_r cell
    refine bd_i r1.1 (by omega) (rl_i fun _ => ?_)
    rw [zL, if_neg (by omega)]
    refine br_i (fun _ => k211 hneg2 _) fun hlt => rl_i fun _ => rd_i fun _ => rd_i fun _ => br_i (fun _ => k211 hneg2 _) fun _ => ?_
    have hp : pr u (cL cell) := ⟨r1.1, by omega, by omega⟩
    have q := hT.2.1 _ hp
    have r3 := cR_r (u.2.2 (cL cell))
    have n3 := hT.2.2.1 (cR (u.2.2 (cL cell))) r3.1 (by omega)
    unfold v_7_made_212
    refine br_n (by decide) (rd_i fun _ => rd_i fun _ => bd_i r3.1 (show cR (u.2.2 (cL cell)) < 160000 by omega) (rd_i fun _ => ?_))
    have e3 : z.2.1 28 (cR (u.2.2 (cL cell))) = u.2.1 28 (cR (u.2.2 (cL cell))) := by rw [z28, if_neg (by omega)]
    show v_7_made_235 Q (u.1 29) (cL cell) (cR cell) 1 (z.2.1 28 (cR (u.2.2 (cL cell)))) z
    rw [e3]
    exact k235 hneg2 _ n3.2.2.2.1 n3.2.2.2.2.1
  · -- full
    have full : ∀ x, x ≠ 0 → v_7_made_75 Q x u := fun x hx => by
      unfold v_7_made_75
      exact sw_i (hq 0 _ (RM_t hT hx) (Int.le_refl _) (show 0 < u.1 29 by omega) (Or.inr hx))
    exact rd_i fun _ => br_i (fun h => rd_i fun _ => full _ h) fun _ => full 4 (by decide)
  · refine bd_i (by omega) (by omega) (rl_i fun _ => br_i (fun _ => bd_i (by omega) (by omega) (rd_i fun _ => ?_)) fun h => hq x4 u (RG.rf hT) (by omega) p2 (Or.inl (Classical.not_not.mp h)))
    have n4 := hT.2.2.1 x4 (by omega) p2
    exact ih _ _ _ _ ⟨rfl, rfl, rfl, n4.1, by omega⟩ (by omega)
theorem j_pairCell {u : iST} {l r : Int} {Q : Int → iST → Prop} (l1 : l < 2147483648) (r1 : r < 2147483648) (hq : ∀ cell, cell < 0 → cL cell = (if 0 ≤ l then l else 0) → cR cell = (if 0 ≤ r then r else 0) → Q cell u) : v_11_pairCell l r Q u := by
  have key : ∀ l', 0 ≤ l' → l' < 2147483648 → (l' = if 0 ≤ l then l else 0) → v_11_pairCell_12 Q r (-9223372036854775808) l' u := by
    intro l' h0 h1 e
    unfold v_11_pairCell_12
    refine rl_i fun _ => rl_i fun _ => br_i (fun hr => rl_i fun _ => ?_) fun hr => rl_i fun _ => ?_
    · have q := cell_pair h0 h1 hr r1
      exact hq _ q.1 (q.2.1.trans e) (by rw [if_pos hr]; exact q.2.2)
    · have q := cell_pair h0 h1 (Int.le_refl 0) (by decide)
      exact hq _ q.1 (q.2.1.trans e) (by rw [if_neg hr]; exact q.2.2)
  unfold v_11_pairCell
  exact br_i (fun h => key l h l1 (by rw [if_pos h])) fun h => key 0 (Int.le_refl _) (by decide) (by rw [if_neg h])
/-- a pair is made -/
theorem j_pair {u : iST} {l r : Int} {Q : Int → iST → Prop} (hT : RT u) (l1 : l < u.1 29) (r1 : r < u.1 29) (hq : ∀ t v, RM u v → 0 ≤ t → t < v.1 29 → ((pr v t ∧ (0 ≤ l → eL v t = l) ∧ (0 ≤ r → eR v t = r)) ∨ v.1 32 ≠ 0) → Q t v) : v_11_pairCell l r (fun c u => v_7_made c Q u) u := by
  have h44 := hT.1.1
  have hm := hT.1.2
  refine j_pairCell (by omega) (by omega) fun cell h1 h2 h3 => j_made hT (fun _ => ?_) fun t v hv t0 t1 ht => hq t v hv t0 t1 ?_
  · rw [h2, h3]
    constructor <;> split <;> omega
  · rcases ht with z | z
    · have hp : pr v t := ⟨t0, t1, by rw [z]; exact h1⟩
      refine Or.inl ⟨hp, fun h => ?_, fun h => ?_⟩
      · unfold eL; rw [if_pos hp, z, h2, if_pos h]
      · unfold eR; rw [if_pos hp, z, h3, if_pos h]
    · exact Or.inr z
theorem j_blame {u : iST} {x : Int} {Q : iST → Prop} (hT : RT u) (hx : x ≠ 0) (hq : ∀ v, RM u v → v.1 32 ≠ 0 → Q v) : v_7_blame x Q u := by
  unfold v_7_blame
  exact rd_i fun _ => br_i (fun h => hq u (RG.rf hT) h) fun _ => sw_i (hq _ (RM_t hT hx) hx)
theorem j_constantOf {u : iST} {x : Int} {Q : Int → iST → Prop} (hT : RT u) (hx : x < u.1 29) (hq : ∀ t v, RM u v → t < v.1 29 → Q t v) : v_7_constantOf x Q u := by
  have h44 := hT.1.1
  unfold v_7_constantOf
  refine br_i (fun _ => hq x u (RG.rf hT) hx) fun _ => j_isNatural hT fun b hb _ => br_i (fun _ => ?_) fun _ => hq x u (RG.rf hT) hx
  exact j_pair hT hx (by omega) fun t v hv t0 t1 _ => j_pair hv.1 (by have := hv.2.1.1; omega) t1 fun t2 w hw _ t3 _ => hq t2 w (hv.tr hw) t3
