/-! the class: what can be evaluated -/
def bA_r' (x : Int) : Int := yT_BASE_ARITIES.getD (x - 3).toNat 0
theorem bA_r_r [DecidableEq Ob] {x : Int} (h0 : 3 ≤ x) (h1 : x ≤ 16) : 1 ≤ bA_r' x ∧ bA_r' x ≤ 3 := by
  have hn : (x - 3).toNat < 14 := by omega
  unfold bA_r'
  exact (by decide : ∀ n, n < 14 → 1 ≤ yT_BASE_ARITIES.getD n 0 ∧ yT_BASE_ARITIES.getD n 0 ≤ 3) _ hn
/-- so many terms may a call have -/
def WA_r (h : Int) (n : Nat) : Prop := n ≤ 6 ∧ (3 ≤ h → h ≤ 16 → (n : Int) = bA_r' h)
def AllL_r (u : iST) (P : Int → Prop) : Nat → Int → Prop
  | 0, _ => True
  | n + 1, l => P (eL_r' u l) ∧ AllL_r u P n (eR_r' u l)
theorem AllL_r.mono [DecidableEq Ob] {u : iST} {P P' : Int → Prop} (h : ∀ y, P y → P' y) : ∀ {n : Nat} {l : Int}, AllL_r u P n l → AllL_r u P' n l
  | 0, _, _ => trivial
  | _ + 1, _, g => ⟨h _ g.1, AllL_r.mono h g.2⟩
theorem AllL_r.ext [DecidableEq Ob] {u v : iST} (hT : RT_r u) (h : Ce_r u v) {P : Int → Prop} : ∀ {n : Nat} {l : Int}, l < u.1 29 → AllL_r u P n l → AllL_r v P n l
  | 0, _, _, _ => trivial
  | n + 1, l, l1, g => by
    have e := h.el l1
    refine ⟨by rw [e.1]; exact g.1, ?_⟩
    rw [e.2]
    exact AllL_r.ext hT h (eR_r_r hT l).2.1 g.2
def WFc_r (u : iST) (P : Int → Prop) (y : Int) : Prop := y < u.1 29 ∧ (pr_r u y → eL_r' u y ≠ 2 → ∃ n : Nat, WA_r (eL_r' u y) n ∧ LnP_r u n (eR_r' u y) ∧ AllL_r u P n (eR_r' u y))
def WF_r (u : iST) (x : Int) : Prop := ∃ P : Int → Prop, P x ∧ ∀ y, P y → WFc_r u P y
theorem WF_r.st [DecidableEq Ob] {u : iST} {x : Int} (h : WF_r u x) : WFc_r u (WF_r u) x := by
  obtain ⟨P, hx, hP⟩ := h
  obtain ⟨a, b⟩ := hP x hx
  refine ⟨a, fun c d => ?_⟩
  obtain ⟨n, e, f, g⟩ := b c d
  exact ⟨n, e, f, g.mono (fun y hy => ⟨P, hy, hP⟩)⟩
theorem WF_r.mk [DecidableEq Ob] {u : iST} {x : Int} (h : WFc_r u (WF_r u) x) : WF_r u x := by
  refine ⟨fun y => y = x ∨ WF_r u y, Or.inl rfl, fun y hy => ?_⟩
  have hc : WFc_r u (WF_r u) y := by
    rcases hy with e | e
    · rw [e]; exact h
    · exact e.st
  obtain ⟨a, b⟩ := hc
  refine ⟨a, fun c d => ?_⟩
  obtain ⟨n, e, f, g⟩ := b c d
  exact ⟨n, e, f, g.mono (fun y hy => Or.inr hy)⟩
theorem WF_r.ext [DecidableEq Ob] {u v : iST} (hT : RT_r u) (h : Ce_r u v) {x : Int} (hx : WF_r u x) : WF_r v x := by
  obtain ⟨P, hp, hP⟩ := hx
  refine ⟨P, hp, fun y hy => ?_⟩
  obtain ⟨a, b⟩ := hP y hy
  have e := h.el a
  refine ⟨by have := h.1; omega, fun c d => ?_⟩
  rw [e.1] at d
  obtain ⟨n, f, g, i⟩ := b (h.prd a c) d
  rw [e.1, e.2]
  exact ⟨n, f, g.ext hT h (eR_r_r hT y).2.1, i.ext hT h (eR_r_r hT y).2.1⟩
/-- what is no call -/
theorem WF_r.at [DecidableEq Ob] {u : iST} {x : Int} (h : x < u.1 29) (hn : pr_r u x → eL_r' u x = 2) : WF_r u x := WF_r.mk ⟨h, fun a b => absurd (hn a) b⟩
/-! the book is asked -/
theorem j_functionOf_r [DecidableEq Ob] {u : iST} {x : Int} {Q : Int → iST → Prop} (h0 : 0 ≤ u.1 0) (h1 : u.1 0 ≤ 40) (hq : ∀ r, (r = -1 ∨ (0 ≤ r ∧ r < u.1 0 ∧ u.2.1 0 r = x)) → Q r u) : v_0_functionOf x Q u := by
  unfold v_0_functionOf v_0_functionOf_2
  refine lf2 (B := fun R y1 y2 u => v_0_functionOf_2b R Q y1 y2 u) (fun y1 y2 v => x = y1 ∧ 0 ≤ y2 ∧ u = v) (fun _ y2 _ => (40 - y2).toNat) ?_ ⟨rfl, Int.le_refl _, rfl⟩
  intro y1 y2 v hI R ih
  obtain ⟨rfl, h2, rfl⟩ := hI
  unfold v_0_functionOf_2b
  exact rd_i fun _ => br_i (fun _ => hq (-1) (Or.inl rfl)) fun hlt => bd_i h2 (by omega) (rd_i fun _ => br_i (fun _ => ov_i (by omega) (by omega) (ih _ _ _ ⟨rfl, by omega, rfl⟩ (by omega))) fun h => hq y2 (Or.inr ⟨h2, by omega, Classical.not_not.mp h⟩))
theorem j_theoremOf_r [DecidableEq Ob] {u : iST} {x : Int} {Q : Int → iST → Prop} (h0 : 0 ≤ u.1 1) (h1 : u.1 1 ≤ 60) (hq : ∀ r, (r = -1 ∨ (0 ≤ r ∧ r < u.1 1 ∧ u.2.1 5 r = x)) → Q r u) : v_0_theoremOf x Q u := by
  unfold v_0_theoremOf v_0_theoremOf_2
  refine lf2 (B := fun R y1 y2 u => v_0_theoremOf_2b R Q y1 y2 u) (fun y1 y2 v => x = y1 ∧ 0 ≤ y2 ∧ u = v) (fun _ y2 _ => (60 - y2).toNat) ?_ ⟨rfl, Int.le_refl _, rfl⟩
  intro y1 y2 v hI R ih
  obtain ⟨rfl, h2, rfl⟩ := hI
  unfold v_0_theoremOf_2b
  exact rd_i fun _ => br_i (fun _ => hq (-1) (Or.inl rfl)) fun hlt => bd_i h2 (by omega) (rd_i fun _ => br_i (fun _ => ov_i (by omega) (by omega) (ih _ _ _ ⟨rfl, by omega, rfl⟩ (by omega))) fun h => hq y2 (Or.inr ⟨h2, by omega, Classical.not_not.mp h⟩))
/-- the numbers of the book -/
def BN_r (u : iST) : Prop := (0 ≤ u.1 0 ∧ u.1 0 ≤ 40) ∧ (0 ≤ u.1 1 ∧ u.1 1 ≤ 60) ∧ ∀ d, 0 ≤ d → d < u.1 0 → 0 ≤ u.2.1 2 d ∧ u.2.1 2 d ≤ 6 ∧ 16 < u.2.1 0 d
theorem BN_r.keep [DecidableEq Ob] {u v : iST} (h : BN_r u) (h0 : v.1 0 = u.1 0) (h1 : v.1 1 = u.1 1) (h2 : v.2.1 2 = u.2.1 2) (h3 : v.2.1 0 = u.2.1 0) : BN_r v := by
  unfold BN_r at *
  rw [h0, h1, h2, h3]
  exact h
theorem j_arityOf_r [DecidableEq Ob] {u : iST} {x : Int} {Q : Int → iST → Prop} (hB : BN_r u) (hq : ∀ r : Int, (r = -1 ∨ ∃ n : Nat, r = n ∧ WA_r x n) → Q r u) : v_0_arityOf x Q u := by
  have loop : (x < 3 ∨ 16 < x) → v_0_arityOf_19 Q x u := by
    intro hx
    unfold v_0_arityOf_19 v_0_arityOf_21
    refine lf2 (B := fun R y1 y2 u => v_0_arityOf_21b R Q y1 y2 u) (fun y1 y2 v => x = y1 ∧ 0 ≤ y2 ∧ u = v) (fun _ y2 _ => (40 - y2).toNat) ?_ ⟨rfl, Int.le_refl _, rfl⟩
    intro y1 y2 v hI R ih
    obtain ⟨rfl, h2, rfl⟩ := hI
    unfold v_0_arityOf_21b
    refine rd_i fun _ => br_i (fun _ => hq (-1) (Or.inl rfl)) fun hlt => bd_i h2 (by have := hB.1; omega) (rd_i fun _ => br_i (fun _ => ov_i (by have := hB.1; omega) (by have := hB.1; omega) (ih _ _ _ ⟨rfl, by omega, rfl⟩ (by have := hB.1; omega))) fun h => bd_i h2 (by have := hB.1; omega) (rd_i fun _ => hq _ (Or.inr ?_)))
    have q := hB.2.2 y2 h2 (by omega)
    exact ⟨(u.2.1 2 y2).toNat, by omega, by omega, fun a b => by omega⟩
  unfold v_0_arityOf
  refine br_i (fun h => loop (Or.inl h)) fun h0 => br_i (fun h => loop (Or.inr h)) fun h1 => ov_i (by omega) (by omega) (bd_i (by omega) (by omega) (rd_i fun _ => hq _ (Or.inr ?_)))
  have q := bA_r_r (x := x) (by omega) (by omega)
  exact ⟨(bA_r' x).toNat, (show bA_r' x = _ by omega), by omega, fun _ _ => by omega⟩

