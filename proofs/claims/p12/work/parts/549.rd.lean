-- deps: 548
/-! the reference: what the form of a PROOF says of its terms -/
theorem f7Cc_K [DecidableEq Ob] : ∀ k, f7K k = false → f7Cc k = false := by
  intro k h
  have := f7K_in h
  unfold f7Cc f7O f7I f7M fI
  simp only [Bool.or_eq_false_iff, decide_eq_false_iff_not]
  omega
theorem termsAt_rd [DecidableEq Ob] {E : Sp.Env} {o : Ob} {n k : Nat} (h : Sp.termsAt E o n = true) (hk : k < n) : (Sp.rdAt E o (k + 1)).isSome = true := by
  unfold Sp.termsAt at h
  rw [List.all_eq_true] at h
  exact h k (List.mem_range.mpr hk)
/-- which heads are there, and what each says -/
theorem isForm_says [DecidableEq Ob] {E : Sp.Env} {o : Ob} (h : Sp.isForm E o = true) : 2 ≤ Ob.len o ∧
    ((Ob.lft o = Ob.taut ∨ Ob.lft o = Ob.same ∨ Ob.lft o = Ob.value ∨ Ob.lft o = Ob.cut ∨ Ob.lft o = Ob.induct) → (Sp.rdAt E o 1).isSome = true) ∧
    ((Ob.lft o = Ob.first ∨ Ob.lft o = Ob.second ∨ Ob.lft o = Ob.pair) → 3 ≤ Ob.len o ∧ (Sp.rdAt E o 1).isSome = true ∧ (Sp.rdAt E o 2).isSome = true) ∧
    ((Ob.lft o = Ob.yes ∨ Ob.lft o = Ob.no) → 4 ≤ Ob.len o ∧ (Sp.rdAt E o 1).isSome = true ∧ (Sp.rdAt E o 2).isSome = true ∧ (Sp.rdAt E o 3).isSome = true) := by
  refine ⟨?_, ?_, ?_, ?_⟩
  · by_cases c0 : Ob.lft o = Ob.taut
    · rw [isForm_taut c0, Bool.and_eq_true, beq_iff_eq] at h; omega
    by_cases c1 : Ob.lft o = Ob.same
    · rw [isForm_same c1, Bool.and_eq_true, beq_iff_eq] at h; omega
    by_cases c2 : Ob.lft o = Ob.value
    · rw [isForm_value c2, Bool.and_eq_true, beq_iff_eq] at h; omega
    by_cases c3 : Ob.lft o = Ob.first
    · rw [isForm_first c3, Bool.and_eq_true, beq_iff_eq] at h; omega
    by_cases c4 : Ob.lft o = Ob.second
    · rw [isForm_second c4, Bool.and_eq_true, beq_iff_eq] at h; omega
    by_cases c5 : Ob.lft o = Ob.pair
    · rw [isForm_pair c5, Bool.and_eq_true, beq_iff_eq] at h; omega
    by_cases c6 : Ob.lft o = Ob.yes
    · rw [isForm_yes c6, Bool.and_eq_true, beq_iff_eq] at h; omega
    by_cases c7 : Ob.lft o = Ob.no
    · rw [isForm_no c7, Bool.and_eq_true, beq_iff_eq] at h; omega
    by_cases c8 : Ob.lft o = Ob.defS
    · rw [isForm_defS c8, Bool.and_eq_true, beq_iff_eq] at h; omega
    by_cases c9 : Ob.lft o = Ob.thm
    · rw [isForm_thm c9, Bool.and_eq_true, beq_iff_eq] at h; omega
    by_cases d0 : Ob.lft o = Ob.weak
    · rw [isForm_weak d0, Bool.and_eq_true, Bool.and_eq_true, beq_iff_eq] at h; omega
    by_cases d1 : Ob.lft o = Ob.cut
    · rw [isForm_cut d1, Bool.and_eq_true, beq_iff_eq] at h; omega
    by_cases d2 : Ob.lft o = Ob.inst
    · rw [isForm_inst d2, Bool.and_eq_true, decide_eq_true_eq] at h; omega
    by_cases d3 : Ob.lft o = Ob.swap
    · rw [isForm_swap d3, beq_iff_eq] at h; omega
    by_cases d4 : Ob.lft o = Ob.put
    · rw [isForm_put d4, beq_iff_eq] at h; omega
    by_cases d5 : Ob.lft o = Ob.induct
    · rw [isForm_induct d5, Bool.and_eq_true, Bool.and_eq_true, Bool.and_eq_true, decide_eq_true_eq] at h; omega
    rw [isForm_else (fun z => z.elim c0 c1) c2 (fun z => z.elim c3 (fun z => z.elim c4 c5)) (fun z => z.elim c6 c7) c8 c9 d0 d1 d2 d3 d4 d5] at h
    cases h
  · rintro (c | c | c | c | c)
    · rw [isForm_taut c, Bool.and_eq_true] at h; exact termsAt_rd h.2 (k := 0) (by decide)
    · rw [isForm_same c, Bool.and_eq_true] at h; exact termsAt_rd h.2 (k := 0) (by decide)
    · rw [isForm_value c, Bool.and_eq_true] at h
      cases e : Sp.rdAt E o 1 with
      | some _ => rfl
      | none =>
        rw [e] at h
        have h2 : false = true := h.2
        cases h2
    · rw [isForm_cut c, Bool.and_eq_true] at h; exact h.2
    · rw [isForm_induct c, Bool.and_eq_true, Bool.and_eq_true, Bool.and_eq_true] at h; exact h.1.1.2
  · rintro (c | c | c)
    · rw [isForm_first c, Bool.and_eq_true, beq_iff_eq] at h; exact ⟨by omega, termsAt_rd h.2 (k := 0) (by decide), termsAt_rd h.2 (k := 1) (by decide)⟩
    · rw [isForm_second c, Bool.and_eq_true, beq_iff_eq] at h; exact ⟨by omega, termsAt_rd h.2 (k := 0) (by decide), termsAt_rd h.2 (k := 1) (by decide)⟩
    · rw [isForm_pair c, Bool.and_eq_true, beq_iff_eq] at h; exact ⟨by omega, termsAt_rd h.2 (k := 0) (by decide), termsAt_rd h.2 (k := 1) (by decide)⟩
  · rintro (c | c)
    · rw [isForm_yes c, Bool.and_eq_true, beq_iff_eq] at h; exact ⟨by omega, termsAt_rd h.2 (k := 0) (by decide), termsAt_rd h.2 (k := 1) (by decide), termsAt_rd h.2 (k := 2) (by decide)⟩
    · rw [isForm_no c, Bool.and_eq_true, beq_iff_eq] at h; exact ⟨by omega, termsAt_rd h.2 (k := 0) (by decide), termsAt_rd h.2 (k := 1) (by decide), termsAt_rd h.2 (k := 2) (by decide)⟩
