/-! the class: clauses -/
def CV_r (G : Int → Prop) (u : iST) : Prop := ∀ c, 0 ≤ c → c < 408 → (0 ≤ u.2.1 46 c ∧ u.2.1 46 c ≤ 30) ∧ (G c → ∀ i, 0 ≤ i → i < u.2.1 46 c → u.2.1 49 (30 * c + i) < u.1 29)
abbrev cRw_r : List Nat := [46, 47, 48, 49]
theorem CV_r.keep [DecidableEq Ob] {G : Int → Prop} {u v : iST} (h : CV_r G u) (h6 : v.2.1 46 = u.2.1 46) (h9 : v.2.1 49 = u.2.1 49) (hu : u.1 29 ≤ v.1 29) : CV_r G v := fun c c0 c1 => by
  obtain ⟨a, b⟩ := h c c0 c1
  rw [h6, h9]
  exact ⟨a, fun g i i0 i1 => by have := b g i i0 i1; omega⟩
theorem CV_r.rg [DecidableEq Ob] {G : Int → Prop} {u v : iST} {S R : List Nat} (h : CV_r G u) (g : RG_r S R u v) (h6 : 46 ∉ R) (h9 : 49 ∉ R) : CV_r G v := h.keep (g.a 46 h6) (g.a 49 h9) g.2.1.1
theorem CV_r.less [DecidableEq Ob] {G G' : Int → Prop} {u : iST} (h : CV_r G u) (hg : ∀ c, G' c → G c) : CV_r G' u := fun c c0 c1 => ⟨(h c c0 c1).1, fun g => (h c c0 c1).2 (hg c g)⟩
theorem j_clear_r [DecidableEq Ob] {u : iST} {c : Int} {G : Int → Prop} {Q : iST → Prop} (hT : RT_r u) (hC : CV_r G u) (hq : ∀ v, RG_r [] cRw_r u v → CV_r (fun x => G x ∨ x = c) v → v.2.1 46 c = 0 → Q v) : v_1_clear c Q u := by
  unfold v_1_clear
  refine sw_e_r fun w1 e1 => sw_e_r fun w2 e2 => sw_e_r fun w3 e3 => ?_
  have r3 : RG_r [] cRw_r u w3 := by
    rw [e3, e2, e1]
    exact (((RG_r.rf hT).A _ _ (by decide) (by decide)).A _ _ (by decide) (by decide)).A _ _ (by decide) (by decide)
  have r46 : ∀ x, w3.2.1 46 x = if x = c then 0 else u.2.1 46 x := fun x => by rw [e3, e2, e1]; rfl
  have r49 : w3.2.1 49 = u.2.1 49 := by rw [e3, e2, e1]; rfl
  have r29 : w3.1 29 = u.1 29 := r3.s 29 (by decide)
  refine hq w3 r3 (fun x x0 x1 => ?_) (by rw [r46, if_pos rfl])
  obtain ⟨a, b⟩ := hC x x0 x1
  rw [r46, r49, r29]
  by_cases e : x = c
  · rw [if_pos e]
    exact ⟨⟨by decide, by decide⟩, fun _ i i0 i1 => by omega⟩
  · rw [if_neg e]
    exact ⟨a, fun g => b (g.resolve_right e)⟩
theorem j_copy_r [DecidableEq Ob] {u : iST} {c d : Int} {G : Int → Prop} {Q : iST → Prop} (hT : RT_r u) (hC : CV_r G u) (c0 : 0 ≤ c) (c1 : c < 408) (d0 : 0 ≤ d) (d1 : d < 408) (hd : G d) (hq : ∀ v, RG_r [] cRw_r u v → CV_r (fun x => G x ∨ x = c) v → v.2.1 48 c = u.2.1 48 d → (∀ x, x ≠ c → v.2.1 48 x = u.2.1 48 x) → Q v) : v_1_copy c d Q u := by
  unfold v_1_copy
  refine sw_e_r fun w0 e0 => rd_i fun _ => sw_e_r fun w1 e1 => rd_i fun _ => sw_e_r fun w2 e2 => rd_i fun _ => sw_e_r fun w3 e3 => ?_
  have a0 : w0.1 = u.1 ∧ w0.2.2 = u.2.2 ∧ (∀ k, k ≠ 49 → w0.2.1 k = u.2.1 k) ∧ ∀ i, w0.2.1 49 i = if 30 * c ≤ i ∧ i < 30 * c + 30 then u.2.1 49 (30 * d + (i - 30 * c)) else u.2.1 49 i := by
    rw [e0]; exact ⟨rfl, rfl, fun k hk => if_neg hk, fun _ => rfl⟩
  have r0 : RG_r [] cRw_r u w0 := (RG_r.rf hT).put ⟨fun k _ => by rw [a0.1], fun k hk => a0.2.2.1 k (fun e => hk (by rw [e]; decide))⟩ a0.2.1 (by rw [a0.1]) (fun z => by rw [a0.1] at z; exact z) (fun k hk => a0.2.2.1 k (fun e => by rw [e] at hk; revert hk; decide)) (Sp_r.eq (by rw [a0.1]) (by rw [a0.1]))
  have r3 : RG_r [] cRw_r u w3 := by
    rw [e3, e2, e1]
    exact ((r0.A _ _ (by decide) (by decide)).A _ _ (by decide) (by decide)).A _ _ (by decide) (by decide)
  have r46 : ∀ x, w3.2.1 46 x = if x = c then u.2.1 46 d else u.2.1 46 x := fun x => by
    have q : w3.2.1 46 x = if x = c then w0.2.1 46 d else w0.2.1 46 x := by rw [e3, e2, e1]; rfl
    rw [q, a0.2.2.1 46 (by decide)]
  have r48 : ∀ x, w3.2.1 48 x = if x = c then u.2.1 48 d else u.2.1 48 x := fun x => by
    have q : w3.2.1 48 x = if x = c then w2.2.1 48 d else w2.2.1 48 x := by rw [e3]; rfl
    have q2 : w2.2.1 48 = w0.2.1 48 := by rw [e2, e1]; rfl
    rw [q, q2, a0.2.2.1 48 (by decide)]
  have r49 : w3.2.1 49 = w0.2.1 49 := by rw [e3, e2, e1]; rfl
  have r29 : w3.1 29 = u.1 29 := r3.s 29 (by decide)
  refine hq w3 r3 (fun x x0 x1 => ?_) (by rw [r48, if_pos rfl]) (fun x hx => by rw [r48, if_neg hx])
  have D := hC d d0 d1
  rw [r46, r49, r29]
  by_cases e : x = c
  · rw [if_pos e]
    refine ⟨D.1, fun _ i i0 i1 => ?_⟩
    rw [a0.2.2.2, if_pos (by omega), show 30 * d + (30 * x + i - 30 * c) = 30 * d + i from by omega]
    exact D.2 hd i i0 i1
  · rw [if_neg e]
    have X := hC x x0 x1
    refine ⟨X.1, fun g i i0 i1 => ?_⟩
    rw [a0.2.2.2, if_neg (by omega)]
    exact X.2 (g.resolve_right e) i i0 i1
theorem j_placeOf_r [DecidableEq Ob] {u : iST} {c x : Int} {G : Int → Prop} {Q : Int → iST → Prop} (hC : CV_r G u) (c0 : 0 ≤ c) (c1 : c < 408) (hq : ∀ r, -1 ≤ r → r < 30 → r < u.2.1 46 c ∨ r = -1 → Q r u) : v_1_placeOf c x Q u := by
  have C := (hC c c0 c1).1
  unfold v_1_placeOf v_1_placeOf_2
  refine lf3 (B := fun R y0 y1 y2 u => v_1_placeOf_2b R Q y0 y1 y2 u) (fun y0 y1 y2 v => c = y0 ∧ x = y1 ∧ 0 ≤ y2 ∧ u = v) (fun _ _ y2 _ => (30 - y2).toNat) ?_ ⟨rfl, rfl, Int.le_refl _, rfl⟩
  intro y0 y1 y2 v hI R ih
  obtain ⟨rfl, rfl, h2, rfl⟩ := hI
  unfold v_1_placeOf_2b
  exact rd_i fun _ => br_i (fun _ => hq (-1) (by decide) (by decide) (Or.inr rfl)) fun hlt => bd_i h2 (by omega) (rd_i fun _ => br_i (fun _ => ov_i (by omega) (by omega) (ih _ _ _ _ ⟨rfl, rfl, by omega, rfl⟩ (by omega))) fun _ => hq y2 (by omega) (by omega) (Or.inl (by omega)))
theorem j_insert_r [DecidableEq Ob] {u : iST} {c p x s : Int} {G : Int → Prop} {Q : Int → iST → Prop} (hT : RT_r u) (hC : CV_r G u) (c0 : 0 ≤ c) (c1 : c < 408) (hx : x < u.1 29) (hq : ∀ b v, bz b → RG_r [] cRw_r u v → CV_r G v → v.2.1 48 = u.2.1 48 → Q b v) : v_1_insert c p x s Q u := by
  have C := hC c c0 c1
  have no : ∀ b, bz b → zt b (Q b u) := fun b hb => ⟨hb, hq b u hb (RG_r.rf hT) hC rfl⟩
  unfold v_1_insert v_1_insert_3
  refine lf5 (B := fun R y0 y1 y2 y3 y4 u => v_1_insert_3b R Q y0 y1 y2 y3 y4 u) (fun y0 y1 y2 y3 y4 v => c = y0 ∧ p = y1 ∧ x = y2 ∧ s = y3 ∧ 0 ≤ y4 ∧ u = v) (fun _ _ _ _ y4 _ => (30 - y4).toNat) ?_ ⟨rfl, rfl, rfl, rfl, Int.le_refl _, rfl⟩
  intro y0 y1 y2 y3 y4 v hI R ih
  obtain ⟨rfl, rfl, rfl, rfl, h4, rfl⟩ := hI
  unfold v_1_insert_3b
  refine rd_i fun _ => br_i (fun _ => br_i (fun _ => no 0 (Or.inl rfl)) fun hp0 => rd_i fun _ => br_i (fun _ => no 0 (Or.inl rfl)) fun hp1 => rd_i fun _ => br_i (fun hlt => rd_i fun _ => ?_) fun _ => no 0 (Or.inl rfl)) fun hlt => bd_i h4 (by omega) (rd_i fun _ => br_i (fun _ => ov_i (by omega) (by omega) (ih _ _ _ _ _ _ ⟨rfl, rfl, rfl, rfl, by omega, rfl⟩ (by omega))) fun _ => no 1 (Or.inr rfl))
  unfold v_1_insert_60
  refine lf5 (B := fun R y0 y1 y2 y3 y4 u => v_1_insert_60b R Q y0 y1 y2 y3 y4 u) (fun y0 y1 y2 y3 y4 t => c = y0 ∧ p = y1 ∧ x = y2 ∧ s = y3 ∧ p ≤ y4 ∧ y4 ≤ u.2.1 46 c ∧ RG_r [] cRw_r u t ∧ (∀ k, k ≠ 49 → t.2.1 k = u.2.1 k) ∧ (∀ q, q < 30 * c ∨ 30 * c + 30 ≤ q → t.2.1 49 q = u.2.1 49 q) ∧ (G c → ∀ i, 0 ≤ i → (i < u.2.1 46 c ∨ (y4 < i ∧ i ≤ u.2.1 46 c)) → t.2.1 49 (30 * c + i) < u.1 29)) (fun _ _ _ _ y4 _ => (y4 - p).toNat) ?_ ⟨rfl, rfl, rfl, rfl, by omega, Int.le_refl _, RG_r.rf hT, fun _ _ => rfl, fun _ _ => rfl, fun g i i0 i1 => C.2 g i i0 (by omega)⟩
  intro y0 y1 y2 y3 y4 t hI R2 ih2
  obtain ⟨rfl, rfl, rfl, rfl, q1, q2, q3, q4, q5, q6⟩ := hI
  have t29 : t.1 29 = u.1 29 := q3.s 29 (by decide)
  unfold v_1_insert_60b
  refine br_i (fun hle => bd_i (by omega) (by omega) (sw_e_r fun w1 e1 => rd_i fun _ => ?_)) fun hgt => ov_i (by omega) (by omega) (bd_i (by omega) (by omega) (rd_i fun _ => bd_i (by omega) (by omega) (sw_i (ov_i (by omega) (by omega) (ih2 _ _ _ _ _ _ ⟨rfl, rfl, rfl, rfl, by omega, by omega, q3.A _ _ (by decide) (by decide), fun k hk => (if_neg hk).trans (q4 k hk), fun q hq => ?_, fun g i i0 i1 => ?_⟩ (by omega))))))
  · have w1r : RG_r [] cRw_r u w1 := by rw [e1]; exact q3.A _ _ (by decide) (by decide)
    have w46 : w1.2.1 46 = u.2.1 46 := by rw [e1, ← q4 46 (by decide)]; rfl
    have w49 : ∀ q, w1.2.1 49 q = if q = 30 * c + p then x else t.2.1 49 q := fun q => by rw [e1]; rfl
    have w48 : w1.2.1 48 = u.2.1 48 := by rw [e1, ← q4 48 (by decide)]; rfl
    rw [w46]
    refine ov_i (by omega) (by omega) (sw_e_r fun w2 e2 => rd_i fun _ => rd_i fun _ => sw_e_r fun w3 e3 => rd_i fun _ => ?_)
    have w3r : RG_r [] cRw_r u w3 := by
      rw [e3, e2]
      exact (w1r.A _ _ (by decide) (by decide)).A _ _ (by decide) (by decide)
    have r46 : ∀ z, w3.2.1 46 z = if z = c then u.2.1 46 c + 1 else u.2.1 46 z := fun z => by
      have q : w3.2.1 46 z = if z = c then u.2.1 46 c + 1 else w1.2.1 46 z := by rw [e3, e2]; rfl
      rw [q, w46]
    have r49 : w3.2.1 49 = w1.2.1 49 := by rw [e3, e2]; rfl
    have r48 : w3.2.1 48 = u.2.1 48 := by
      have q : w3.2.1 48 = w1.2.1 48 := by rw [e3, e2]; rfl
      rw [q, w48]
    have r29 : w3.1 29 = u.1 29 := w3r.s 29 (by decide)
    have fin : ∀ b, bz b → zt b (Q b w3) := fun b hb => ⟨hb, hq b w3 hb w3r (fun z z0 z1 => ?_) r48⟩
    · exact br_i (fun _ => fin 0 (Or.inl rfl)) fun _ => fin 1 (Or.inr rfl)
    · rw [r46, r49, r29]
      by_cases e : z = c
      · rw [if_pos e]
        refine ⟨⟨by omega, by omega⟩, fun g i i0 i1 => ?_⟩
        rw [w49]
        by_cases ei : i = p
        · rw [if_pos (by omega)]; exact hx
        · rw [if_neg (by omega), e]
          exact q6 (e ▸ g) i i0 (by omega)
      · rw [if_neg e]
        have X := hC z z0 z1
        refine ⟨X.1, fun g i i0 i1 => ?_⟩
        rw [w49, if_neg (by omega), q5 _ (by omega)]
        exact X.2 g i i0 i1
  · show (if q = 30 * c + y4 then t.2.1 49 (30 * c + (y4 - 1)) else t.2.1 49 q) = _
    rw [if_neg (by omega)]; exact q5 q hq
  · show (if 30 * c + i = 30 * c + y4 then t.2.1 49 (30 * c + (y4 - 1)) else t.2.1 49 (30 * c + i)) < u.1 29
    by_cases ei : i = y4
    · rw [if_pos (by omega)]; exact q6 g (y4 - 1) (by omega) (by omega)
    · rw [if_neg (by omega)]; exact q6 g i i0 (by omega)
theorem j_isTooBig_r [DecidableEq Ob] {u : iST} {c : Int} {Q : Int → iST → Prop} (hq : ∀ b, bz b → Q b u) : v_1_isTooBig c Q u := by
  unfold v_1_isTooBig
  exact rd_i fun _ => br_i (fun _ => zt_0 (hq 0 (Or.inl rfl))) fun _ => zt_1 (hq 1 (Or.inr rfl))
theorem j_remove_r [DecidableEq Ob] {u : iST} {c p s : Int} {G : Int → Prop} {Q : iST → Prop} (hT : RT_r u) (hC : CV_r G u) (c0 : 0 ≤ c) (c1 : c < 408) (hq : ∀ v, RG_r [] cRw_r u v → CV_r G v → v.2.1 48 = u.2.1 48 → (0 ≤ p → p < u.2.1 46 c → v.2.1 46 c = u.2.1 46 c - 1) → Q v) : v_1_remove c p s Q u := by
  have C := hC c c0 c1
  unfold v_1_remove
  refine br_i (fun h => hq u (RG_r.rf hT) hC rfl (fun z => by omega)) fun hp => rd_i fun _ => br_i (fun hlt => ov_i (by omega) (by omega) ?_) fun h => hq u (RG_r.rf hT) hC rfl (fun _ z => by omega)
  unfold v_1_remove_17
  refine lf3 (B := fun R y0 y2 y3 u => v_1_remove_17b R Q y0 y2 y3 u) (fun y0 y2 y3 t => c = y0 ∧ s = y2 ∧ 1 ≤ y3 ∧ RG_r [] cRw_r u t ∧ (∀ k, k ≠ 49 → t.2.1 k = u.2.1 k) ∧ (∀ q, q < 30 * c ∨ 30 * c + 30 ≤ q → t.2.1 49 q = u.2.1 49 q) ∧ (G c → ∀ i, 0 ≤ i → i < u.2.1 46 c → t.2.1 49 (30 * c + i) < u.1 29)) (fun _ _ y3 _ => (30 - y3).toNat) ?_ ⟨rfl, rfl, by omega, RG_r.rf hT, fun _ _ => rfl, fun _ _ => rfl, fun g i i0 i1 => C.2 g i i0 i1⟩
  intro y0 y2 y3 t hI R ih
  obtain ⟨rfl, rfl, q1, q3, q4, q5, q6⟩ := hI
  unfold v_1_remove_17b
  refine rd_i fun _ => ?_
  rw [q4 46 (by decide)]
  refine br_i (fun hle => rd_i fun _ => ?_) fun hgt => ov_i (by omega) (by omega) (bd_i (by omega) (by omega) (rd_i fun _ => bd_i (by omega) (by omega) (sw_i (ov_i (by omega) (by omega) (ih _ _ _ _ ⟨rfl, rfl, by omega, q3.A _ _ (by decide) (by decide), fun k hk => (if_neg hk).trans (q4 k hk), fun q hq => ?_, fun g i i0 i1 => ?_⟩ (by omega))))))
  · refine ov_i (by omega) (by omega) (sw_e_r fun w2 e2 => rd_i fun _ => rd_i fun _ => sw_e_r fun w3 e3 => ?_)
    have w3r : RG_r [] cRw_r u w3 := by
      rw [e3, e2]
      exact (q3.A _ _ (by decide) (by decide)).A _ _ (by decide) (by decide)
    have r46 : ∀ z, w3.2.1 46 z = if z = c then u.2.1 46 c - 1 else u.2.1 46 z := fun z => by
      have q : w3.2.1 46 z = if z = c then u.2.1 46 c - 1 else t.2.1 46 z := by rw [e3, e2]; rfl
      rw [q, q4 46 (by decide)]
    have r49 : w3.2.1 49 = t.2.1 49 := by rw [e3, e2]; rfl
    have r48 : w3.2.1 48 = u.2.1 48 := by
      have q : w3.2.1 48 = t.2.1 48 := by rw [e3, e2]; rfl
      rw [q, q4 48 (by decide)]
    have r29 : w3.1 29 = u.1 29 := w3r.s 29 (by decide)
    refine hq w3 w3r (fun z z0 z1 => ?_) r48 (fun _ _ => by rw [r46, if_pos rfl])
    rw [r46, r49, r29]
    by_cases e : z = c
    · rw [if_pos e]
      exact ⟨⟨by omega, by omega⟩, fun g i i0 i1 => by rw [e]; exact q6 (e ▸ g) i i0 (by omega)⟩
    · rw [if_neg e]
      have X := hC z z0 z1
      exact ⟨X.1, fun g i i0 i1 => by rw [q5 _ (by omega)]; exact X.2 g i i0 i1⟩
  · show (if q = 30 * c + (y3 - 1) then t.2.1 49 (30 * c + y3) else t.2.1 49 q) = _
    rw [if_neg (by omega)]; exact q5 q hq
  · show (if 30 * c + i = 30 * c + (y3 - 1) then t.2.1 49 (30 * c + y3) else t.2.1 49 (30 * c + i)) < u.1 29
    by_cases ei : i = y3 - 1
    · rw [if_pos (by omega)]; exact q6 g y3 (by omega) (by omega)
    · rw [if_neg (by omega)]; exact q6 g i i0 i1

