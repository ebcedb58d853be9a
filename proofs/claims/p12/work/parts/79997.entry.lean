-- deps: 79996
/-! recheck, begun in a house between calls -/
theorem AllL_e [DecidableEq Ob] {u : iST} {P : Int → Prop} : ∀ (n : Nat) (l : Int), AllL u P n l → AllL_r u P n l
  | 0, _, _ => trivial
  | n + 1, l, h => ⟨h.1, AllL_e n _ h.2⟩
theorem LnP_e [DecidableEq Ob] {u : iST} : ∀ (n : Nat) (l : Int), LnP u n l → LnP_r u n l
  | 0, _, h => h
  | n + 1, l, h => ⟨h.1, LnP_e n _ h.2⟩
theorem WF_e [DecidableEq Ob] {u : iST} {x : Int} (h : WF u x) : WF_r u x := by
  obtain ⟨P, hx, hP⟩ := h
  refine ⟨P, hx, fun y hy => ⟨(hP y hy).1, fun p e => ?_⟩⟩
  obtain ⟨n, a, b, c⟩ := (hP y hy).2 p e
  exact ⟨n, a, LnP_e n _ b, AllL_e n _ c⟩
theorem BE_e [DecidableEq Ob] {u : iST} (h : BE u) : BE_r u := ⟨h.1, fun d d0 d1 => ⟨WF_e (h.2 d d0 d1).1, (h.2 d d0 d1).2⟩⟩
theorem k_recheckS [DecidableEq Ob] {u : iST} {Q : Int → iST → Prop} {S : Sp.St} {n : Int} (h : HJ u) (hS : CfS u S n) (hq : ∀ r v, CfS v S n → Q r v) : v_11_recheck Q u := by
  have hc : CT u := hS.1.choose_spec.1
  refine k_recheck hS (h.1.1.r hc) (fun a a2 ao aT => ?_) h.1.2.2.2.2.2.2.2.1 h.1.2.2.2.2.2.2.2.2.1 (fun h50 => ?_) hq
  · have as : ∀ k, k ≠ 30 → k ≠ 31 → k ≠ 32 → a.1 k = u.1 k := fun k h1 h2 h3 => ao k (by simp only [List.mem_cons, List.not_mem_nil, or_false, not_or]; exact ⟨h1, h2, h3⟩)
    have a29 : a.1 29 = u.1 29 := as 29 (by decide) (by decide) (by decide)
    have C : Ce u a := ⟨by omega, fun i _ _ => by rw [a2]⟩
    have hB := h.1.2.1
    have aB : BL a := hB.same (fun k hk => as k (fun e => by rw [e] at hk; revert hk; decide) (fun e => by rw [e] at hk; revert hk; decide) (fun e => by rw [e] at hk; revert hk; decide)) (fun k _ => by rw [a2]) (by rw [a29]; exact hB.2.2.2.1) (fun f f0 f1 => (hB.fun f0 f1).2.2.2.2.1.ext h.1.1 C)
    have w : WK a := ⟨aT.o, aB.BE, Or.inr (by rw [as 37 (by decide) (by decide) (by decide)]; exact h.1.2.2.2.2.1.1), by rw [as 38 (by decide) (by decide) (by decide)]; have := h.1.2.2.2.2.1.2; omega, aB.TB, h.1.2.2.1.keep (by rw [a2]), by rw [as 39 (by decide) (by decide) (by decide)]; exact h.1.2.2.2.1⟩
    exact ⟨aT, BE_e w.2.1, w.2.2.1, w.2.2.2.1, w.2.2.2.2.1, w.2.2.2.2.2.1, w.2.2.2.2.2.2⟩
  · obtain ⟨pN, pC, p25⟩ := h.2 h50
    exact ⟨pN, pC, p25⟩
