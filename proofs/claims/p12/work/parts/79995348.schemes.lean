/-! the class: paths, hints, and the clauses made of them -/
abbrev wkS_r : List Nat := [4, 5, 6, 7, 8, 9, 10, 11, 12, 13, 14, 15, 16, 17, 18, 19, 20, 21, 22, 23, 24, 25, 26, 27, 28, 29, 30, 31, 32, 33, 34, 35, 36, 39, 40, 41, 42, 43, 44, 45, 46, 47, 48, 49, 50]
abbrev wkR_r : List Nat := [10, 11, 12, 13, 16, 17, 18, 19, 20, 21, 22, 23, 24, 25, 26, 27, 28, 29, 30, 31, 32, 33, 34, 35, 36, 37, 38, 39, 40, 41, 42, 43, 44, 45, 46, 47, 48, 49, 51, 52, 53, 54, 55, 56, 57]
theorem WK_r.go [DecidableEq Ob] {u v : iST} {S R : List Nat} (h : WK_r u) (g : RG_r S R u v) (h1 : ∀ k ∈ S, k ∈ wkS_r) (h2 : ∀ k ∈ R, k ∈ wkR_r) (hs : SL_r v) (h39 : 0 ≤ v.1 39 ∧ v.1 39 ≤ 256) : WK_r v := by
  have g : RG_r wkS_r wkR_r u v := g.w h1 h2
  exact ⟨g.1, h.2.1.rg h.1 g (by decide) (by decide) (by decide) (by decide) (by decide), by rw [g.s 37 (by decide)]; exact h.2.2.1, by rw [g.s 38 (by decide)]; exact h.2.2.2.1, h.2.2.2.2.1.keep (g.s 1 (by decide)) g.2.1.1 (fun k hk => g.a k (by revert hk; revert k; decide)), hs, h39⟩
theorem WK_r.k [DecidableEq Ob] {u v : iST} {S R : List Nat} (h : WK_r u) (g : RG_r S R u v) (h1 : ∀ k ∈ S, k ∈ wkS_r) (h2 : ∀ k ∈ R, k ∈ wkR_r) (h39 : 39 ∉ S) (h54 : 54 ∉ R) : WK_r v := h.go g h1 h2 (h.2.2.2.2.2.1.keep (g.a 54 h54)) (by rw [g.s 39 h39]; exact h.2.2.2.2.2.2)
theorem WK_r.tm [DecidableEq Ob] {u v : iST} (h : WK_r u) (g : RG_r tmS_r tmR_r u v) (hV : BV_r v) : WK_r v := h.go g (by decide) (by decide) (h.2.2.2.2.2.1.keep (g.a 54 (by decide))) ⟨hV.1, hV.2.1⟩

