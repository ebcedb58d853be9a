/-! the class: nodes are made and forgotten -/
theorem sw_e_r [DecidableEq Ob] {S : Type} {u : S} {P : S → Prop} (h : ∀ w, w = u → P w) : sw u P := h
theorem RM_t_r [DecidableEq Ob] {u : iST} (hT : RT_r u) {x : Int} (h : x ≠ 0) : RM_r u (iI u 32 x) := by
  refine ⟨RT_eq_r hT rfl rfl (fun _ _ => rfl), Ce_r.rf u, ⟨⟨fun k hk => if_neg (fun e => hk (by rw [e]; decide)), fun _ _ => rfl⟩, Sp_r.eq rfl rfl⟩, fun z => ?_⟩
  have z : x = 0 := z
  exact absurd z h
theorem j_made_r [DecidableEq Ob] {u : iST} {cell : Int} {Q : Int → iST → Prop} (hT : RT_r u) (hk : CellOk (u.1 29) cell) (hq : ∀ t v, RM_r u v → 0 ≤ t → t < v.1 29 → (v.2.2 t = cell ∨ v.1 32 ≠ 0) → Q t v) : v_7_made cell Q u :=
  cj_v_7_made (Q1 := fun t v => RM u v ∧ 0 ≤ t ∧ t < v.1 29 ∧ (v.2.2 t = cell ∨ v.1 32 ≠ 0)) (Q2 := fun _ v => CT v) (fun t v a b => hq t v (a.1.r b) a.2.1 a.2.2.1 a.2.2.2) (j_made hT.o (fun z => ⟨(hk.1 z).1, (hk.1 z).2.1⟩) (fun t v h1 h2 h3 h4 => ⟨h1, h2, h3, h4⟩)) (pc_madeT hT.c hk (fun _ _ g _ => g.1))

theorem j_pairCell_r [DecidableEq Ob] {u : iST} {l r : Int} {Q : Int → iST → Prop} (l1 : l < 2147483648) (r1 : r < 2147483648) (hq : ∀ cell, cell < 0 → cL cell = (if 0 ≤ l then l else 0) → cR cell = (if 0 ≤ r then r else 0) → Q cell u) : v_11_pairCell l r Q u := by
  have key : ∀ l', 0 ≤ l' → l' < 2147483648 → (l' = if 0 ≤ l then l else 0) → v_11_pairCell_12 Q r (-9223372036854775808) l' u := by
    intro l' h0 h1 e
    unfold v_11_pairCell_12
    refine rl_i fun _ => rl_i fun _ => br_i (fun hr => rl_i fun _ => ?_) fun hr => rl_i fun _ => ?_
    · have q := cell_pair h0 h1 hr r1
      exact hq _ q.1 (q.2.1.trans e) (by rw [if_pos hr]; exact q.2.2)
    · have q := cell_pair h0 h1 (Int.le_refl 0) (by decide)
      exact hq _ q.1 (q.2.1.trans e) (by rw [if_neg hr]; exact q.2.2)
  unfold v_11_pairCell
  exact br_i (fun h => key l h l1 (by rw [if_pos h])) fun h => key 0 (Int.le_refl _) (by decide) (by rw [if_neg h])
theorem j_pair_r [DecidableEq Ob] {u : iST} {l r : Int} {Q : Int → iST → Prop} (hT : RT_r u) (l1 : l < u.1 29) (r1 : r < u.1 29) (hq : ∀ t v, RM_r u v → 0 ≤ t → t < v.1 29 → ((pr_r v t ∧ (0 ≤ l → eL_r' v t = l) ∧ (0 ≤ r → eR_r' v t = r)) ∨ v.1 32 ≠ 0) → Q t v) : v_11_pairCell l r (fun c u => v_7_made c Q u) u :=
  cj_v_11_pairCell (Q1 := fun c u' => v_7_made c (fun t v => RM u v ∧ 0 ≤ t ∧ t < v.1 29 ∧ ((pr v t ∧ (0 ≤ l → eL v t = l) ∧ (0 ≤ r → eR v t = r)) ∨ v.1 32 ≠ 0)) u') (Q2 := fun c u' => pv_7_made c (fun _ v => CT v) u') (fun c u' a b => cj_v_7_made (fun t v a b => hq t v (a.1.r b) a.2.1 a.2.2.1 a.2.2.2) a b) (j_pair hT.o l1 r1 (fun t v h1 h2 h3 h4 => ⟨h1, h2, h3, h4⟩)) (pc_pairT hT.c l1 r1 (fun _ _ g _ => g.1))

theorem j_blame_r [DecidableEq Ob] {u : iST} {x : Int} {Q : iST → Prop} (hT : RT_r u) (hx : x ≠ 0) (hq : ∀ v, RM_r u v → v.1 32 ≠ 0 → Q v) : v_7_blame x Q u := by
  unfold v_7_blame
  exact rd_i fun _ => br_i (fun h => hq u (RG_r.rf hT) h) fun _ => sw_i (hq _ (RM_t_r hT hx) hx)
theorem j_constantOf_r [DecidableEq Ob] {u : iST} {x : Int} {Q : Int → iST → Prop} (hT : RT_r u) (hx : x < u.1 29) (hq : ∀ t v, RM_r u v → t < v.1 29 → Q t v) : v_7_constantOf x Q u := by
  have h44 := hT.1.1
  unfold v_7_constantOf
  refine br_i (fun _ => hq x u (RG_r.rf hT) hx) fun _ => j_isNatural_r hT fun b hb _ => br_i (fun _ => ?_) fun _ => hq x u (RG_r.rf hT) hx
  exact j_pair_r hT hx (by omega) fun t v hv t0 t1 _ => j_pair_r hv.1 (by have := hv.2.1.1; omega) t1 fun t2 w hw _ t3 _ => hq t2 w (hv.tr hw) t3

