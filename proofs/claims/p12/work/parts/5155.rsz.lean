-- deps: 515
theorem sz_two [DecidableEq Ob] {f a b : Ob} (hf : f ≠ Ob.quote) : Ob.sz (.pr f (.pr a (.pr b Ob.nil))) = 1 + a.sz + b.sz := by
  show (if f = Ob.quote then (1 : Int) else 1 + (Ob.szM false a + (Ob.szM false b + 0))) = _
  rw [if_neg hf]
  show 1 + (a.sz + (b.sz + 0)) = _
  omega
theorem sz_one [DecidableEq Ob] {f a : Ob} (hf : f ≠ Ob.quote) : Ob.sz (.pr f (.pr a Ob.nil)) = 1 + a.sz := by
  show (if f = Ob.quote then (1 : Int) else 1 + (Ob.szM false a + 0)) = _
  rw [if_neg hf]
  show 1 + (a.sz + 0) = _
  omega
theorem hypIn_sz [DecidableEq Ob] {E : Sp.Env} : ∀ (n : Nat) (o : Ob), SizeOf.sizeOf o < n → Ob.wt (Sp.arOf E) o → ((Sp.hypIn o).length : Int) ≤ o.sz
  | 0, _, h, _ => by omega
  | n + 1, o, h, w => by
    by_cases c : o.isCallOf Ob.ifS = true ∧ o.item 3 = Ob.nil
    · obtain ⟨a, b, d, e, wa, wb, wd⟩ := Ob.wt_three w c.1 ifS_q (arOf_ifS E)
      have hd : d = Ob.nil := by have := c.2; rw [e] at this; exact this
      rw [e, hd] at h ⊢
      have i1 := hypIn_sz n a (by simp at h; omega) wa
      have i2 := hypIn_sz n b (by simp at h; omega) wb
      rw [hypIn_if, sz_if, List.length_append]
      have := Ob.sz_pos Ob.nil
      omega
    · rw [hypIn_no c]
      have := Ob.sz_pos o
      show (1 : Int) ≤ _
      omega
theorem ruleGo_sz [DecidableEq Ob] {E : Sp.Env} : ∀ (n : Nat) (o : Ob) (l : List Ob), SizeOf.sizeOf o < n → Ob.wt (Sp.arOf E) o → ((Sp.ruleGo o l).1.length : Int) + (Sp.ruleGo o l).2.sz ≤ (l.length : Int) + o.sz ∧ Ob.wt (Sp.arOf E) (Sp.ruleGo o l).2
  | 0, _, _, h, _ => by omega
  | n + 1, o, l, h, w => by
    by_cases c : o.isCallOf Ob.implies = true
    · obtain ⟨a, b, e, wa, wb⟩ := Ob.wt_two w c implies_q (arOf_implies E)
      rw [e] at h ⊢
      have i1 := hypIn_sz (SizeOf.sizeOf a + 1) a (Nat.lt_succ_self _) wa
      have i2 := ruleGo_sz n b (l ++ Sp.hypIn a) (by simp at h; omega) wb
      rw [ruleGo_imp, sz_two implies_q]
      rw [List.length_append] at i2
      exact ⟨by omega, i2.2⟩
    · rw [ruleGo_no l (by simpa using c)]
      exact ⟨Int.le_refl _, w⟩
theorem Sp.ruleOf_sz [DecidableEq Ob] {E : Sp.Env} {F : Ob} {R : Sp.Rul} (w : Ob.wt (Sp.arOf E) F) (h : Sp.ruleOf F = some R) : R.lhs.sz ≤ F.sz ∧ (R.hyps.length : Int) ≤ F.sz := by
  obtain ⟨g1, g2⟩ := ruleGo_sz (SizeOf.sizeOf F + 1) F [] (Nat.lt_succ_self _) w
  unfold Sp.ruleOf at h
  generalize (Sp.ruleGo F []).1 = hs at h g1
  generalize (Sp.ruleGo F []).2 = o at h g1 g2
  have g1 : (hs.length : Int) + o.sz ≤ 0 + F.sz := g1
  unfold Sp.ruleOn at h
  obtain ⟨r1, r2, _⟩ := ruleAt_some h
  rw [r1, r2]
  have hp := Ob.sz_pos o
  refine ⟨?_, by omega⟩
  split
  · next c =>
    rw [Bool.or_eq_true] at c
    rcases c with c | c
    · obtain ⟨a, b, e, _⟩ := Ob.wt_two g2 c equal_q (arOf_equal E)
      rw [e, sz_two equal_q] at g1
      rw [e]
      have := Ob.sz_pos b
      show a.sz ≤ _
      omega
    · obtain ⟨a, e, _⟩ := Ob.wt_one g2 c not_q (arOf_not E)
      rw [e, sz_one not_q] at g1
      rw [e]
      show a.sz ≤ _
      omega
  · omega
theorem HX.hyps [DecidableEq Ob] {y : iST} {H : Sp.Hs} {m : List Ob} (h : HX y H m) : ∀ r, 0 ≤ r → r < y.1 42 → y.2.1 46 r ≠ -1 → y.2.1 48 r ≤ 120 := by
  intro r r0 r1 z
  obtain ⟨h1, h2, ⟨hD, h57, hW, hTk⟩, h4, h5, h6, h7, h8⟩ := h
  have e1 : H.2.1 = thmsL y := hTk.1
  have hmem : thm1 y r ∈ H.2.1 := by
    rw [e1]
    unfold thmsL
    exact List.mem_map.mpr ⟨r.toNat, List.mem_range.mpr (by omega), by rw [show ((r.toNat : Nat) : Int) = r by omega]⟩
  obtain ⟨_, ⟨w1, w2⟩, b, hr⟩ := (HOk.wf h5).2.1 _ hmem
  have hr : (thm1 y r).2.2.2 = (Sp.ruleOf (thm1 y r).2.1).map (Sp.setOn b) := hr
  have e2 : (thm1 y r).2.2.2 = some (ob y (y.2.1 46 r), ob y (y.2.1 47 r), hypL y r, decide (y.2.1 51 r ≠ 0), decide (y.2.1 50 r ≠ 0), decide (y.2.1 52 r ≠ 0)) := if_neg z
  rw [e2] at hr
  cases er : Sp.ruleOf (thm1 y r).2.1 with
  | none => rw [er] at hr; cases hr
  | some R =>
    rw [er] at hr
    have hr := Option.some.inj hr
    have hh : hypL y r = R.2.2.1 := by
      have := congrArg (fun q : Sp.Rul => q.2.2.1) hr
      exact this
    have hs := (Sp.ruleOf_sz w1 er).2
    have hl : (hypL y r).length = (y.2.1 48 r).toNat := ls_len _ _ _ _
    have hs : ((R.2.2.1).length : Int) ≤ _ := hs
    rw [← hh, hl] at hs
    omega
