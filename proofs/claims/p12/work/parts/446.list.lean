-- deps: 445
/-! the reference, partial: lists, constants -/
theorem p_isQuoted [DecidableEq Ob] {k : Int} {Q : Int → iST → Prop} {u : iST} (hT : TI u) (hU : TU u) (k0 : 0 ≤ k) (k1 : k < u.1 8) (h : ∀ r, bq r (ob u k).isQuoted → Q r u) : pw_isQuoted k Q u := by
  refine wp_w_isQuoted (fun _ _ h => h) (s_isQuoted hT k0 k1 (fun r _ hr => h r (bq_of ?_)))
  rw [hr]
  by_cases c : (ob u k).isPr = true
  · obtain ⟨a, b, a', b', _, _, e⟩ := ob_lft hT k0 k1 c
    have e2 := TU.at hT hU (i := 2) (by decide) rfl a (by omega)
    by_cases c' : (ob u (u.2.1 1 k)).isPr = true
    · obtain ⟨d, f, d', f', _, _, e'⟩ := ob_lft hT a' (by omega) c'
      have e0 := TU.at hT hU (i := 0) (by decide) rfl d' (by omega)
      rw [e, e']
      unfold Ob.isQuoted
      rw [Bool.and_eq_true, decide_eq_true_eq, decide_eq_true_eq]
      exact ⟨fun z => ⟨e2.mp z.2.1, e0.mp z.2.2.2⟩, fun z => ⟨a, e2.mpr z.1, d, e0.mpr z.2⟩⟩
    · rw [e]
      refine ⟨fun z => absurd ((ob_isPr hT a' (by omega)).mpr z.2.2.1) c', fun z => ?_⟩
      cases e' : ob u (u.2.1 1 k) with
      | var x => rw [e'] at z; cases z
      | op a b => rw [e'] at c'; exact absurd rfl c'
  · refine ⟨fun z => absurd ((ob_isPr hT k0 k1).mpr z.1) c, fun z => ?_⟩
    cases e : ob u k with
    | var x => rw [e] at z; cases z
    | op a b => rw [e] at c; exact absurd rfl c
/-- there is an item of this number -/
def hasIt [DecidableEq Ob] : Ob → Nat → Prop
  | .pr _ _, 0 => True
  | .pr _ b, k + 1 => hasIt b k
  | _, _ => False
theorem el_ob [DecidableEq Ob] {u : iST} (hT : TI u) : ∀ (n : Nat) (o : Int), 0 ≤ o → o < u.1 8 → hasIt (ob u o) n → 0 ≤ el u o n ∧ el u o n < u.1 8 ∧ ob u (el u o n) = (ob u o).item n
  | 0, o, o0, o1, h => by
    have c : (ob u o).isPr = true := by
      cases e : ob u o with
      | var x => rw [e] at h; cases h
      | op a b => rfl
    obtain ⟨a, b, _, _, _, _, e⟩ := ob_lft hT o0 o1 c
    exact ⟨a, (by show u.2.1 0 o < _; omega), by rw [e]; rfl⟩
  | n + 1, o, o0, o1, h => by
    have c : (ob u o).isPr = true := by
      cases e : ob u o with
      | var x => rw [e] at h; cases h
      | op a b => rfl
    obtain ⟨_, _, a', b', _, _, e⟩ := ob_lft hT o0 o1 c
    rw [e] at h
    have := el_ob hT n (u.2.1 1 o) a' (by omega) h
    rw [e]
    exact this
theorem p_nth [DecidableEq Ob] {o i : Int} {Q : Int → iST → Prop} {u : iST} (hT : TI u) (o0 : 0 ≤ o) (o1 : o < u.1 8) (i0 : 0 ≤ i) (i1 : i < 1000000) (hi : hasIt (ob u o) i.toNat) (h : ∀ k, 0 ≤ k → k < u.1 8 → ob u k = (ob u o).item i.toNat → Q k u) : pw_nth o i Q u := by
  obtain ⟨a, b, c⟩ := el_ob hT i.toNat o o0 o1 hi
  exact wp_w_nth (fun _ _ h => h) (s_nth hT o0 o1 i0 i1 (h _ a b c))
theorem p_term [DecidableEq Ob] {o i : Int} {Q : Int → iST → Prop} {u : iST} (hT : TI u) (o0 : 0 ≤ o) (o1 : o < u.1 8) (i0 : 0 ≤ i) (i1 : i < 1000000) (hi : hasIt (ob u o) i.toNat) (h : ∀ k, 0 ≤ k → k < u.1 8 → ob u k = (ob u o).item i.toNat → Q k u) : pw_term o i Q u := by
  obtain ⟨a, b, c⟩ := el_ob hT i.toNat o o0 o1 hi
  exact wp_w_term (fun _ _ h => h) (s_term hT o0 o1 i0 i1 (h _ a b c))
theorem Ob.len_ge [DecidableEq Ob] : ∀ o : Ob, -1 ≤ o.len
  | .var x => by
    show -1 ≤ (if .var x = Ob.nil then (0 : Int) else -1)
    split <;> omega
  | .op a b => by
    have := Ob.len_ge b
    show -1 ≤ (if Ob.len b = -1 then (-1 : Int) else Ob.len b + 1)
    split <;> omega
theorem IsL_len [DecidableEq Ob] {u : iST} (hT : TI u) (hU : TU u) : ∀ (n : Nat) (o : Int), 0 ≤ o → o < u.1 8 → (IsL u o n ↔ (ob u o).len = (n : Int))
  | 0, o, o0, o1 => by
    have e0 := TU.at hT hU (i := 0) (by decide) rfl o0 o1
    show o = 0 ↔ _
    rw [show (o = 0 ↔ ob u o = Ob.nil) from e0]
    constructor
    · intro h; rw [h]; exact if_pos rfl
    · intro h
      cases e : ob u o with
      | var x =>
        rw [e] at h
        have h : (if .var x = Ob.nil then (0 : Int) else -1) = 0 := h
        by_cases c : .var x = Ob.nil
        · exact c
        · rw [if_neg c] at h; exact absurd h (by decide)
      | op a b =>
        rw [e] at h
        have h : (if Ob.len b = -1 then (-1 : Int) else Ob.len b + 1) = 0 := h
        have := Ob.len_ge b
        split at h <;> omega
  | n + 1, o, o0, o1 => by
    show (0 ≤ o ∧ o < u.1 8 ∧ 0 ≤ u.2.1 0 o ∧ IsL u (u.2.1 1 o) n) ↔ _
    by_cases c : (ob u o).isPr = true
    · obtain ⟨a, b, a', b', _, _, e⟩ := ob_lft hT o0 o1 c
      have ih := IsL_len hT hU n (u.2.1 1 o) a' (by omega)
      have hl : (ob u o).len = if (ob u (u.2.1 1 o)).len = -1 then (-1 : Int) else (ob u (u.2.1 1 o)).len + 1 := by rw [e]; rfl
      have := Ob.len_ge (ob u (u.2.1 1 o))
      rw [hl, ih]
      split
      · constructor
        · intro z; omega
        · intro z; omega
      · constructor
        · intro z; omega
        · intro z; exact ⟨o0, o1, a, by omega⟩
    · refine ⟨fun z => absurd ((ob_isPr hT o0 o1).mpr z.2.2.1) c, fun z => ?_⟩
      cases e : ob u o with
      | var x => rw [e] at z; have z : (if .var x = Ob.nil then (0 : Int) else -1) = _ := z; split at z <;> omega
      | op a b => rw [e] at c; exact absurd rfl c
theorem p_lengthOf [DecidableEq Ob] {o : Int} {Q : Int → iST → Prop} {u : iST} (hT : TI u) (hU : TU u) (o0 : 0 ≤ o) (o1 : o < u.1 8) (h : Q (ob u o).len u) : pw_lengthOf o Q u := by
  refine wp_w_lengthOf (fun _ _ h => h) (s_lengthOf hT o0 o1 (fun hn => ?_) (fun n _ hl => ?_))
  · have e : (ob u o).len = -1 := by
      have := Ob.len_ge (ob u o)
      by_cases c : (ob u o).len = -1
      · exact c
      · exact absurd ((IsL_len hT hU (ob u o).len.toNat o o0 o1).mpr (by omega)) (hn _)
    rw [← e]; exact h
  · rw [← (IsL_len hT hU n o o0 o1).mp hl]; exact h
