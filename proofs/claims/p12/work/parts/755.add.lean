-- deps: 754
/-! the class: the book grows -/
theorem pc_addTheorem [DecidableEq Ob] {a b r : Int} {Q : iST → Prop} {u : iST} (hT : CT u) (hr : u.1 1 = r) (h60 : r < 60) (hq : ∀ v, CG (fun k => decide (k = 1)) (fun k => decide (5 ≤ k ∧ k ≤ 12)) u v → v.2.2 = u.2.2 → (∀ k, k ≠ 1 → v.1 k = u.1 k) → v.1 1 = r + 1 → (∀ k j, j ≠ r → v.2.1 k j = u.2.1 k j) → (∀ k, k ≠ 5 → k ≠ 6 → k ≠ 7 → k ≠ 12 → v.2.1 k = u.2.1 k) → v.2.1 5 r = a → v.2.1 6 r = b → v.2.1 7 r = -1 → v.2.1 12 r = 0 → Q v) : pv_0_addTheorem a b Q u := by
  unfold pv_0_addTheorem
  intro n1 en1 _
  rw [en1, hr]
  refine ⟨fun z => by omega, fun _ => ?_⟩
  intro n2 en2 _ _ _ y1 e1
  rw [en2] at e1
  have m1 : y1.1 = u.1 := by rw [e1]; rfl
  intro n3 en3 _ _ _ y2 e2
  rw [en3, m1, hr] at e2
  have m2 : y2.1 = u.1 := by rw [e2]; exact m1
  intro n4 en4 _ _ _ y3 e3
  rw [en4, m2, hr] at e3
  have m3 : y3.1 = u.1 := by rw [e3]; exact m2
  intro n5 en5 _ _ _ _ y4 e4
  rw [en5, m3, hr] at e4
  have m4 : y4.1 = u.1 := by rw [e4]; exact m3
  intro n6 en6 _ _ y5 e5
  rw [en6, m4, hr] at e5
  have g1 : CG (fun k => decide (k = 1)) (fun k => decide (5 ≤ k ∧ k ≤ 12)) u y1 := by rw [e1]; exact CG_A hT (by omega) (by decide)
  have g2 : CG (fun k => decide (k = 1)) (fun k => decide (5 ≤ k ∧ k ≤ 12)) y1 y2 := by rw [e2]; exact CG_A g1.1 (by omega) (by decide)
  have g3 : CG (fun k => decide (k = 1)) (fun k => decide (5 ≤ k ∧ k ≤ 12)) y2 y3 := by rw [e3]; exact CG_A g2.1 (by omega) (by decide)
  have g4 : CG (fun k => decide (k = 1)) (fun k => decide (5 ≤ k ∧ k ≤ 12)) y3 y4 := by rw [e4]; exact CG_A g3.1 (by omega) (by decide)
  have g5 : CG (fun k => decide (k = 1)) (fun k => decide (5 ≤ k ∧ k ≤ 12)) y4 y5 := by rw [e5]; exact CG_I g4.1 (by decide) (by decide)
  have r5 : y5.2.1 = y4.2.1 := by rw [e5]; rfl
  have ne : ∀ (w : iST) (k m : Nat) (x j : Int), j ≠ r → (iA w k r x).2.1 m j = w.2.1 m j := fun w k m x j hj => by
    by_cases c : m = k
    · rw [c]
      show (if k = k then (fun j => if j = r then x else w.2.1 k j) else w.2.1 k) j = _
      rw [if_pos rfl]; exact if_neg hj
    · rw [iAc_ne _ _ _ c]
  refine hq y5 ((((g1.tr g2).tr g3).tr g4).tr g5) (by rw [e5, e4, e3, e2, e1]; rfl) (fun k hk => ?_) (by rw [e5]; rfl) (fun k j hj => ?_) (fun k h1 h2 h3 h4 => ?_) ?_ ?_ ?_ ?_
  · rw [e5]
    exact (if_neg hk).trans (by rw [m4])
  · rw [r5, e4, ne _ _ _ _ _ hj, e3, ne _ _ _ _ _ hj, e2, ne _ _ _ _ _ hj, e1, ne _ _ _ _ _ hj]
  · rw [r5, e4, iAc_ne _ _ _ h4, e3, iAc_ne _ _ _ h3, e2, iAc_ne _ _ _ h2, e1, iAc_ne _ _ _ h1]
  · rw [r5, e4, iAc_ne _ _ _ (by decide), e3, iAc_ne _ _ _ (by decide), e2, iAc_ne _ _ _ (by decide), e1, iAc_at]
  · rw [r5, e4, iAc_ne _ _ _ (by decide), e3, iAc_ne _ _ _ (by decide), e2, iAc_at]
  · rw [r5, e4, iAc_ne _ _ _ (by decide), e3, iAc_at]
  · rw [r5, e4, iAc_at]
