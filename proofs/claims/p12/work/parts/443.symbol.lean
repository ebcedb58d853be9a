-- deps: 442
/-! the reference, partial: symbols -/
def wrd (u : iST) : List Int := (List.range (u.1 18).toNat).map (fun i : Nat => u.2.1 17 (i : Int))
theorem lts_wrd [DecidableEq Ob] {u : iST} {k : Int} (w0 : 0 ≤ u.1 18) (l0 : 0 ≤ u.2.1 10 k) : lts u k = wrd u ↔ u.2.1 10 k = u.1 18 ∧ ∀ i, 0 ≤ i → i < u.1 18 → u.2.1 9 (12 * k + i) = u.2.1 17 i := by
  unfold lts wrd
  constructor
  · intro h
    have hl := congrArg List.length h
    simp only [List.length_map, List.length_range] at hl
    have e : u.2.1 10 k = u.1 18 := by omega
    refine ⟨e, fun i i0 i1 => ?_⟩
    rw [e] at h
    have := (List.map_inj_left.mp h) i.toNat (List.mem_range.mpr (by omega))
    rw [Int.toNat_of_nonneg i0] at this
    exact this
  · rintro ⟨e, h⟩
    rw [e]
    refine List.map_congr_left (fun i hi => ?_)
    have := List.mem_range.mp hi
    exact h _ (by omega) (by omega)
theorem p_isWord [DecidableEq Ob] {k : Int} {Q : Int → iST → Prop} {u : iST} (w0 : 0 ≤ u.1 18) (l0 : 0 ≤ u.2.1 10 k) (h : ∀ r, (r = 0 ↔ lts u k ≠ wrd u) → Q r u) : pw_isWord k Q u := by
  have hw := lts_wrd (k := k) w0 l0
  have key : ∀ y0, (y0 = 0 ∨ y0 = 1) → (y0 = 0 ↔ u.2.1 10 k ≠ u.1 18) → pw_isWord_18 Q k y0 u := by
    intro y0 hy hy2
    unfold pw_isWord_18
    refine pw_isWord_21_i (fun x1 x2 x3 v => v = u ∧ x1 = k ∧ (x2 = 0 ∨ x2 = 1) ∧ 0 ≤ x3 ∧ x3 ≤ u.1 18 ∧ (x2 = 0 ↔ ¬ (u.2.1 10 k = u.1 18 ∧ ∀ i, 0 ≤ i → i < x3 → u.2.1 9 (12 * k + i) = u.2.1 17 i))) ?_ ⟨rfl, rfl, hy, by omega, w0, ?_⟩
    · intro x1 x2 x3 v hI
      obtain ⟨rfl, rfl, q1, q2, q3, q4⟩ := hI
      unfold pw_isWord_21b
      intro v3 e3 _
      subst e3
      refine ⟨fun hc _ => h _ ?_, fun hc => ⟨fun hd _ => h _ ?_, fun hd => ?_⟩⟩
      · have e : x3 = v.1 18 := by omega
        rw [q4, e, ← hw]
      · refine ⟨fun _ e => ?_, fun _ => hd⟩
        exact (q4.mp hd) ⟨(hw.mp e).1, fun i i0 i1 => (hw.mp e).2 i i0 (by omega)⟩
      · have e1 : x2 = 1 := by omega
        have q5 : v.2.1 10 x1 = v.1 18 ∧ ∀ i, 0 ≤ i → i < x3 → v.2.1 9 (12 * x1 + i) = v.2.1 17 i := Classical.byContradiction (fun z => hd (q4.mpr z))
        intro _ _ _ _ v6 e6 _ _ _ v7 e7 _
        subst e6 e7
        refine ⟨fun he _ => ⟨rfl, rfl, Or.inl rfl, by omega, by omega, fun _ z => he (z.2 x3 q2 (by omega)), fun _ => rfl⟩, fun he _ => ⟨rfl, rfl, Or.inr rfl, by omega, by omega, fun z => absurd z (by decide), fun z => absurd ⟨q5.1, fun i i0 i1 => ?_⟩ z⟩⟩
        by_cases c : i = x3
        · subst c; exact Decidable.not_not.mp he
        · exact q5.2 i i0 (by omega)
    · rw [hy2]
      refine ⟨fun a b => a b.1, fun a b => a ⟨b, fun i i0 i1 => by omega⟩⟩
  unfold pw_isWord
  intro _ _ v1 e1 _ v2 e2 _
  subst e1 e2
  exact ⟨fun hc => key 0 (Or.inl rfl) ⟨fun _ => hc, fun _ => rfl⟩, fun hc => key 1 (Or.inr rfl) ⟨fun z => absurd z (by decide), fun z => absurd z hc⟩⟩
theorem p_spelled [DecidableEq Ob] {Q : Int → iST → Prop} {u : iST} (w0 : 0 ≤ u.1 18) (w1 : u.1 18 ≤ 12) (h : Q (spellF (fun i => u.2.1 17 i) (u.1 18)) u) : pw_spelled 0 (u.1 18) 1 Q u := by
  refine wp_w_spelled (fun _ _ h => h) (s_spelled w0 w1 (fun z => absurd z (by decide)) ?_)
  exact h
