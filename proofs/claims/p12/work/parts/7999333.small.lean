/-! the class: steps; what is forgotten -/
abbrev tS1 : List Nat := [29, 31, 32]
theorem j_step {u : iST} {Q : Int → iST → Prop} (hT : RT u) (hy : ∀ v, RG tS1 mR u v → v.1 31 = u.1 31 + 1 → u.1 31 < u.1 30 → v.1 32 = u.1 32 → Q 1 v) (hn : ∀ v, RG tS1 mR u v → v.1 31 = u.1 31 → v.1 32 ≠ 0 → Q 0 v) : v_7_step Q u := by
  have no : ∀ x, x ≠ 0 → v_7_step_27 Q x u := fun x hx => by
    unfold v_7_step_27
    exact sw_i (zt_0 (hn _ ((RM_t hT hx).w (by decide) (by decide)) rfl hx))
  unfold v_7_step
  refine rd_i fun h31 => rd_i fun h30 => br_i (fun hlt => rd_i fun _ => ov_i (by omega) (by omega) (sw_i (zt_1 (hy _ ((RG.rf hT).put (Fc.I (by decide)) rfl rfl id (fun _ _ => rfl) ⟨show u.1 31 ≤ u.1 31 + 1 by omega, fun _ => show u.1 31 + 1 ≤ u.1 30 by omega⟩) rfl hlt rfl)))) fun _ => rd_i fun _ => br_i (fun h => rd_i fun _ => no _ h) fun _ => no 1 (by decide)
theorem j_begin {u : iST} {x : Int} {Q : iST → Prop} (hT : RT u) (hq : ∀ v, RT v → v.2 = u.2 → (∀ k, k ∉ [30, 31, 32] → v.1 k = u.1 k) → v.1 30 = x → v.1 31 = 0 → v.1 32 = 0 → Q v) : v_7_begin x Q u := by
  unfold v_7_begin
  refine sw_i (sw_i (sw_i (hq _ (RT_eq hT rfl rfl (fun _ _ => rfl)) rfl (fun k hk => ?_) rfl rfl rfl)))
  have h : k ≠ 30 ∧ k ≠ 31 ∧ k ≠ 32 := by
    simp only [List.mem_cons, List.not_mem_nil, or_false, not_or] at hk
    exact hk
  show (if k = 32 then _ else if k = 31 then _ else if k = 30 then _ else u.1 k) = _
  rw [if_neg h.2.2, if_neg h.2.1, if_neg h.1]
theorem j_forget {u : iST} {m : Int} {Q : iST → Prop} (hT : RT u) (m0 : 44 ≤ m) (hq : ∀ v, RT v → v.2.2 = u.2.2 → Fc [29] [30] u v → v.1 29 = (if m < u.1 29 then m else u.1 29) → Q v) : v_7_forget m Q u := by
  have h44 := hT.1.1
  have hm := hT.1.2
  unfold v_7_forget
  refine rd_i fun _ => ov_i (by omega) (by omega) ?_
  unfold v_7_forget_7
  refine lf2 (B := fun R x1 x2 u => v_7_forget_7b R Q x1 x2 u) (fun x1 x2 v => m = x1 ∧ v.1 = u.1 ∧ v.2.2 = u.2.2 ∧ (∀ k, k ≠ 30 → v.2.1 k = u.2.1 k) ∧ x2 < u.1 29 ∧ (m - 1 ≤ x2 ∨ x2 = u.1 29 - 1) ∧ ∀ h, 0 ≤ h → h < 32768 → -1 ≤ v.2.1 30 h ∧ v.2.1 30 h ≤ x2 ∧ (v.2.1 30 h = -1 ∨ cSl (u.2.2 (v.2.1 30 h)) = h)) (fun _ x2 _ => (x2 + 1).toNat) ?_ ⟨rfl, rfl, rfl, fun _ _ => rfl, by omega, Or.inr rfl, fun h g0 g1 => by have := hT.2.2.2 h g0 g1; exact ⟨this.1, by omega, this.2.2⟩⟩
  intro x1 x2 v hI R ih
  obtain ⟨rfl, p1, p2, p3, p4, p5, p6⟩ := hI
  have e29 : v.1 29 = u.1 29 := by rw [p1]
  have fin : x2 < m → v_7_forget_47 Q m v := by
    intro hlt
    unfold v_7_forget_47
    refine rd_i fun _ => rd_i fun _ => rd_i fun _ => sw_i ?_
    rw [e29]
    have ew : (if 0 < (if m < u.1 29 then m else u.1 29) then (if m < u.1 29 then m else u.1 29) else 0) = (if m < u.1 29 then m else u.1 29) := by
      rw [if_pos]
      split <;> omega
    rw [ew]
    have hx : x2 + 1 = (if m < u.1 29 then m else u.1 29) ∨ (x2 = u.1 29 - 1 ∧ (if m < u.1 29 then m else u.1 29) = u.1 29) := by
      split <;> omega
    have hW : 44 ≤ (if m < u.1 29 then m else u.1 29) ∧ (if m < u.1 29 then m else u.1 29) ≤ u.1 29 ∧ x2 < (if m < u.1 29 then m else u.1 29) := by split <;> omega
    generalize (if m < u.1 29 then m else u.1 29) = W at *
    have f1 : ∀ k, k ≠ 29 → (iI v 29 W).1 k = u.1 k := fun k hk => by rw [show (iI v 29 W).1 k = v.1 k from if_neg hk, p1]
    have f29 : (iI v 29 W).1 29 = W := rfl
    have f2 : (iI v 29 W).2 = v.2 := rfl
    generalize iI v 29 W = w at *
    refine hq w ⟨⟨by omega, by omega⟩, fun j hj => ?_, fun j j0 j1 => ?_, fun h g0 g1 => ?_⟩ (by rw [f2, p2]) ⟨fun k hk => f1 k (fun e => hk (by rw [e]; decide)), fun k hk => by rw [f2]; exact p3 k (fun e => hk (by rw [e]; decide))⟩ f29
    · obtain ⟨a, b, d⟩ := hj
      rw [f2, p2] at d ⊢
      exact hT.2.1 j ⟨a, by omega, d⟩
    · rw [f2, p2, p3 27 (by decide), p3 28 (by decide), p3 29 (by decide)]
      exact hT.2.2.1 j j0 (by omega)
    · rw [f2, p2, f29]
      have := p6 h g0 g1
      exact ⟨this.1, by omega, this.2.2⟩
  unfold v_7_forget_7b
  refine br_i fin fun hge => br_i (fun hneg => absurd hneg (by omega)) fun h0 => bd_i (by omega) (by omega) (rl_i fun _ => rl_i fun _ => rl_i fun _ => rd_i fun _ => bd_i (by omega) (by omega) (rd_i fun _ => ?_))
  rw [p2, p3 27 (by decide)]
  have sr := cSl_r (u.2.2 x2)
  have n := hT.2.2.1 x2 (by omega) p4
  show bd (cSl (u.2.2 x2)) 32768 (sw (iA v 30 (cSl (u.2.2 x2)) (u.2.1 27 x2)) fun u => ov (x2 + (-1)) (R m (x2 + (-1)) u))
  refine bd_i sr.1 sr.2 (sw_i (ov_i (by omega) (by omega) (ih _ _ _ ⟨rfl, p1, p2, fun k hk => (if_neg hk).trans (p3 k hk), by omega, by omega, fun h g0 g1 => ?_⟩ (by omega))))
  show -1 ≤ (if h = cSl (u.2.2 x2) then u.2.1 27 x2 else v.2.1 30 h) ∧ (if h = cSl (u.2.2 x2) then u.2.1 27 x2 else v.2.1 30 h) ≤ x2 + -1 ∧ ((if h = cSl (u.2.2 x2) then u.2.1 27 x2 else v.2.1 30 h) = -1 ∨ cSl (u.2.2 (if h = cSl (u.2.2 x2) then u.2.1 27 x2 else v.2.1 30 h)) = h)
  have q := p6 h g0 g1
  by_cases e : h = cSl (u.2.2 x2)
  · rw [if_pos e]
    exact ⟨n.1, by omega, n.2.2.1.imp id (fun z => z.trans e.symm)⟩
  · rw [if_neg e]
    refine ⟨q.1, ?_, q.2.2⟩
    by_cases e2 : v.2.1 30 h = x2
    · rcases q.2.2 with z | z
      · omega
      · rw [e2] at z
        exact absurd z.symm e
    · omega
