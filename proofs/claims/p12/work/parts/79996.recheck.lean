-- deps: 79995351
/-! recheck leaves the house as it is -/
theorem k_recheck [DecidableEq Ob] {u : iST} {Q : Int → iST → Prop} {S : Sp.St} {n : Int} (hS : CfS u S n) (hT : RT_r u) (hW : ∀ a : iST, a.2 = u.2 → (∀ k, k ∉ [30, 31, 32] → a.1 k = u.1 k) → RT_r a → WK_r a) (h13 : 0 ≤ u.1 13 ∧ u.1 13 ≤ 120) (h14 : 0 ≤ u.1 14 ∧ u.1 14 ≤ 10) (hp : u.1 50 ≠ 0 → NF_r u ∧ CV_r (fun c => c < u.1 13) u ∧ (0 ≤ u.1 25 ∧ u.1 25 ≤ u.1 1)) (hq : ∀ r v, CfS v S n → Q r v) : v_11_recheck Q u := by
  unfold v_11_recheck
  refine rz_i fun _ => br_i (fun h50 => j_begin_r hT fun a aT a2 ao a30 a31 a32 => ?_) fun _ => zt_0 (hq 0 u hS)
  obtain ⟨pN, pC, p25⟩ := hp h50
  have aW := hW a a2 ao aT
  have as : ∀ k, k ≠ 30 → k ≠ 31 → k ≠ 32 → a.1 k = u.1 k := fun k h1 h2 h3 => ao k (by simp only [List.mem_cons, List.not_mem_nil, or_false, not_or]; exact ⟨h1, h2, h3⟩)
  have a29 : a.1 29 = u.1 29 := as 29 (by decide) (by decide) (by decide)
  have aN : NF_r a := pN.keep (as 26 (by decide) (by decide) (by decide)) (by omega) (by rw [a2])
  have aC : CV_r (fun c => c < a.1 13 ∨ False) a := by
    rw [as 13 (by decide) (by decide) (by decide)]
    exact (pC.keep (by rw [a2]) (by rw [a2]) (by omega)).less (fun c hc => hc.resolve_right id)
  refine j_doNotesHold_r aW aN (by rw [as 25 (by decide) (by decide) (by decide), as 1 (by decide) (by decide) (by decide)]; exact p25) (by omega) fun b v hb hv vW v31 vN v27 => ?_
  have v13 : v.1 13 = a.1 13 := hv.s 13 (by decide)
  refine j_prove_r (a := 1) (E := fun _ => False) (Or.inr rfl) vW (fun _ => vN) (by rw [hv.s 25 (by decide), hv.s 1 (by decide), as 25 (by decide) (by decide) (by decide), as 1 (by decide) (by decide) (by decide)]; exact p25) v31 (fun z => by omega) (by rw [v13, as 13 (by decide) (by decide) (by decide)]; exact h13) (by rw [hv.s 14 (by decide), as 14 (by decide) (by decide) (by decide)]; exact h14) (by rw [v13]; exact aC.rg hv (by decide) (by decide)) fun w hw => ?_
  obtain ⟨w1, w2, w3, w4, w5, w6, w7, w8⟩ := hw
  have g : RG_r (27 :: peS_r) pvR_r a w := (hv.w (by decide) (by decide)).tr (w1.w (by decide) (by decide))
  have e27 : w.1 27 = u.1 27 := by
    have h0 := hS.1.choose_spec.2.2.2.2.2.2.2.1.2
    rw [w1.s 27 (by decide), v27, h0]
  have ce : CE u w := ⟨by have := g.2.1.1; omega, fun k k0 k1 => by rw [g.2.1.2 k k0 (by omega), a2]⟩
  have cg : CG (fun _ => true) (fun _ => true) u w := ⟨g.1.c, ce, fun k hk => (by cases hk), fun k hk => (by cases hk)⟩
  have wS : CfS w S n := hS.keep cg (fun k hk => by
      by_cases c : k = 27
      · rw [c]; exact e27
      · have ns : k ∉ (27 :: peS_r) := by
          intro z
          have z : k = 27 ∨ k ∈ peS_r := List.mem_cons.mp z
          rcases z with z | z
          · exact c z
          · have q : k = 0 ∨ k = 1 ∨ k = 2 ∨ k = 3 ∨ k = 37 ∨ k = 42 ∨ k = 43 ∨ k = 48 ∨ k = 50 := by omega
            rcases q with q | q | q | q | q | q | q | q | q <;> rw [q] at z <;> revert z <;> decide
        rw [g.s k ns, as k (by omega) (by omega) (by omega)]) (fun k hk => by
      have nr : k ∉ pvR_r := by
        intro z
        have q : k = 0 ∨ k = 1 ∨ k = 2 ∨ k = 3 ∨ k = 4 ∨ k = 5 ∨ k = 6 ∨ k = 7 ∨ k = 8 ∨ k = 9 ∨ k = 10 ∨ k = 11 ∨ k = 12 ∨ k = 13 ∨ k = 14 ∨ k = 15 ∨ k = 44 ∨ k = 45 ∨ k = 50 ∨ k = 57 := by omega
        rcases q with q | q | q | q | q | q | q | q | q | q | q | q | q | q | q | q | q | q | q | q <;> rw [q] at z <;> revert z <;> decide
      rw [g.a k nr, a2])
  have no : zt 0 (Q 0 w) := zt_0 (hq 0 w wS)
  exact br_i (fun _ => no) fun _ => j_isAllProved_r fun b2 _ => br_i (fun _ => no) fun _ => zt_1 (hq 1 w wS)
