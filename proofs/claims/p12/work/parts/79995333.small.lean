/-! the class: steps; what is forgotten -/
abbrev tS1_r : List Nat := [29, 31, 32]
theorem j_step_r [DecidableEq Ob] {u : iST} {Q : Int → iST → Prop} (hT : RT_r u) (hy : ∀ v, RG_r tS1_r mR_r u v → v.1 31 = u.1 31 + 1 → u.1 31 < u.1 30 → v.1 32 = u.1 32 → Q 1 v) (hn : ∀ v, RG_r tS1_r mR_r u v → v.1 31 = u.1 31 → v.1 32 ≠ 0 → Q 0 v) : v_7_step Q u := by
  have no : ∀ x, x ≠ 0 → v_7_step_27 Q x u := fun x hx => by
    unfold v_7_step_27
    exact sw_i (zt_0 (hn _ ((RM_t_r hT hx).w (by decide) (by decide)) rfl hx))
  unfold v_7_step
  refine rd_i fun h31 => rd_i fun h30 => br_i (fun hlt => rd_i fun _ => ov_i (by omega) (by omega) (sw_i (zt_1 (hy _ ((RG_r.rf hT).put (Fc_r.I (by decide)) rfl rfl id (fun _ _ => rfl) ⟨show u.1 31 ≤ u.1 31 + 1 by omega, fun _ => show u.1 31 + 1 ≤ u.1 30 by omega⟩) rfl hlt rfl)))) fun _ => rd_i fun _ => br_i (fun h => rd_i fun _ => no _ h) fun _ => no 1 (by decide)
theorem j_begin_r [DecidableEq Ob] {u : iST} {x : Int} {Q : iST → Prop} (hT : RT_r u) (hq : ∀ v, RT_r v → v.2 = u.2 → (∀ k, k ∉ [30, 31, 32] → v.1 k = u.1 k) → v.1 30 = x → v.1 31 = 0 → v.1 32 = 0 → Q v) : v_7_begin x Q u := by
  unfold v_7_begin
  refine sw_i (sw_i (sw_i (hq _ (RT_eq_r hT rfl rfl (fun _ _ => rfl)) rfl (fun k hk => ?_) rfl rfl rfl)))
  have h : k ≠ 30 ∧ k ≠ 31 ∧ k ≠ 32 := by
    simp only [List.mem_cons, List.not_mem_nil, or_false, not_or] at hk
    exact hk
  show (if k = 32 then _ else if k = 31 then _ else if k = 30 then _ else u.1 k) = _
  rw [if_neg h.2.2, if_neg h.2.1, if_neg h.1]
