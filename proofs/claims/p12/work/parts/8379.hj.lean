/-! the class as it is new -/
theorem i64_0 {x : Int64} (h : 0 ≤ x) : 0 ≤ x.toInt := by
  have := Int64.le_iff_toInt_le.mp h
  exact this
theorem nI_int {i : Nat} (h : i < 2 ^ 31) : (nI i).toInt = i := by
  have e : nI i = jI (i : Int) := (jI_nat i).symm
  rw [e, jI_toInt ⟨by omega, by omega⟩]
theorem cSl_slo (x : Int64) : cSl x.toInt = (slo x).toInt := by
  unfold cSl wl2i wlushr wlmul slo
  simp only [jL_of]
  rfl
theorem yU0_R (x : rST) : yR (yU0 x) := by
  have n0 : ∀ y ∈ ([0, 0, 0, 44, 0, 0, (-1), 0, 0, 0, 0, 0, (-1), 0, 0, 0, 0, 0, 0, 0, 0, 0, (-1), 0, (-1), 0, 0, 0, 0, 44, 0, 0, 0, 0, 0, 0, (-1), (-1), (-1), 0, (-1), (-1), 0, 1000, (-1), (-1), (-1), 0, 0, 0, 0] : List Int), inR y := by unfold inR; decide
  refine ⟨fun k => ?_, fun k i => ?_, fun i => inL_of _, ?_, ?_, ?_, fun i => ?_⟩
  · show inR (yN0 k)
    unfold yN0
    rw [List.getD_eq_getElem?_getD]
    cases h : ([0, 0, 0, 44, 0, 0, (-1), 0, 0, 0, 0, 0, (-1), 0, 0, 0, 0, 0, 0, 0, 0, 0, (-1), 0, (-1), 0, 0, 0, 0, 44, 0, 0, 0, 0, 0, 0, (-1), (-1), (-1), 0, (-1), (-1), 0, 1000, (-1), (-1), (-1), 0, 0, 0, 0] : List Int)[k]? with
    | none => exact ⟨by decide, by decide⟩
    | some y => exact n0 y (List.mem_of_getElem? h)
  · show inR (if k = 27 then (x.2.1 i.toNat).toInt else if k = 28 then (x.2.2.1 i.toNat).toInt else if k = 29 then (x.2.2.2.1 i.toNat).toInt else if k = 30 then (x.2.2.2.2.1 i.toNat).toInt else if k = 57 then (if 0 ≤ i ∧ i < 256 then 152 + i else 152) else 0)
    split
    · exact inR_of _
    split
    · exact inR_of _
    split
    · exact inR_of _
    split
    · exact inR_of _
    split
    · split
      · exact ⟨by omega, by omega⟩
      · exact ⟨by decide, by decide⟩
    · exact ⟨by decide, by decide⟩
  · show ∀ k ∈ yzS, bz (yN0 k)
    unfold bz
    decide
  · intro k hk i
    have : (yU0 x).2.1 k i = 0 := by
      have h : k ≠ 27 ∧ k ≠ 28 ∧ k ≠ 29 ∧ k ≠ 30 ∧ k ≠ 57 := by revert hk; revert k; decide
      show (if k = 27 then _ else if k = 28 then _ else if k = 29 then _ else if k = 30 then _ else if k = 57 then _ else 0) = 0
      rw [if_neg h.1, if_neg h.2.1, if_neg h.2.2.1, if_neg h.2.2.2.1, if_neg h.2.2.2.2]
    rw [this]
    exact Or.inl rfl
  · intro k hk i
    have : (yU0 x).2.1 k i = 0 := by
      have h : k ≠ 27 ∧ k ≠ 28 ∧ k ≠ 29 ∧ k ≠ 30 ∧ k ≠ 57 := by revert hk; revert k; decide
      show (if k = 27 then _ else if k = 28 then _ else if k = 29 then _ else if k = 30 then _ else if k = 57 then _ else 0) = 0
      rw [if_neg h.1, if_neg h.2.1, if_neg h.2.2.1, if_neg h.2.2.2.1, if_neg h.2.2.2.2]
    rw [this]
    exact ⟨by decide, by decide⟩
  · show 0 ≤ (if 0 ≤ i ∧ i < 256 then 152 + i else (152 : Int)) ∧ (if 0 ≤ i ∧ i < 256 then 152 + i else (152 : Int)) < 408
    split <;> omega
theorem yU0_J {x : rST} (hn : x.2.2.2.2.2 = 44) (h : rO3 x) : HJ (yU0 x) := by
  obtain ⟨⟨h1, h2, h3, h4, _, _⟩, _⟩ := h
  rw [hn] at h1 h2 h3 h4
  have u29 : (yU0 x).1 29 = 44 := rfl
  have m1 : ((-1 : Int32)).toInt = -1 := rfl
  have rt : RT (yU0 x) := by
    refine ⟨⟨by rw [u29]; decide, by rw [u29]; decide⟩, fun j hj => ?_, fun j j0 j1 => ?_, fun k k0 k1 => ?_⟩
    · exfalso
      have p3 : (x.1 j.toNat).toInt < 0 := hj.2.2
      have p2 : j < 44 := hj.2.1
      have p1 := hj.1
      have := i64_0 (h3 j.toNat (by omega))
      omega
    · rw [u29] at j1
      have s := h4 j.toNat (by omega)
      have e28 : (yU0 x).2.1 28 j = 0 := by show (x.2.2.1 j.toNat).toInt = 0; rw [s.1]; rfl
      have e29 : (yU0 x).2.1 29 j = 0 := by show (x.2.2.2.1 j.toNat).toInt = 0; rw [s.2]; rfl
      rw [e28, e29]
      show -1 ≤ (x.2.1 j.toNat).toInt ∧ (x.2.1 j.toNat).toInt < j ∧ ((x.2.1 j.toNat).toInt = -1 ∨ cSl (x.1 ((x.2.1 j.toNat).toInt).toNat).toInt = cSl (x.1 j.toNat).toInt) ∧ _
      rcases h2 j.toNat (by omega) with q | ⟨i, hi, q, r⟩
      · rw [q, m1]
        exact ⟨by omega, by omega, Or.inl rfl, by decide, by decide, by decide, j0⟩
      · rw [q, nI_int (by omega), Int.toNat_natCast, cSl_slo, cSl_slo, r]
        exact ⟨by omega, by omega, Or.inr rfl, by decide, by decide, by decide, j0⟩
    · rw [u29]
      show -1 ≤ (x.2.2.2.2.1 k.toNat).toInt ∧ (x.2.2.2.2.1 k.toNat).toInt < 44 ∧ ((x.2.2.2.2.1 k.toNat).toInt = -1 ∨ cSl (x.1 ((x.2.2.2.2.1 k.toNat).toInt).toNat).toInt = k)
      rcases h1 k.toNat (by omega) with q | ⟨i, hi, q, r⟩
      · rw [q, m1]
        exact ⟨by decide, by decide, Or.inl rfl⟩
      · rw [q, nI_int (by omega), Int.toNat_natCast, cSl_slo, r, nI_int (by omega)]
        exact ⟨by omega, by omega, Or.inr (by omega)⟩
  have bl : BL (yU0 x) := by
    have u2 : (yU0 x).1 2 = 0 := rfl
    have u3 : (yU0 x).1 3 = 44 := rfl
    have u0 : (yU0 x).1 0 = 0 := rfl
    have u1 : (yU0 x).1 1 = 0 := rfl
    refine ⟨by rw [u2]; decide, ?_, fun e e0 e1 => ?_, by rw [u3, u29]; decide, ?_, ?_, fun e he => ?_⟩
    · unfold mkA
      rw [u2, if_pos rfl, u3]
      decide
    · rw [u2] at e1; omega
    · rw [u0, u2]; exact ⟨rfl, by decide⟩
    · rw [u1, u2]; exact ⟨rfl, by decide⟩
    · rw [u2] at he; omega
  refine ⟨⟨rt, bl, fun s s0 s1 => ?_, (show 0 ≤ yN0 39 ∧ yN0 39 ≤ 256 by decide), ⟨rfl, rfl⟩, fun c c0 c1 => ⟨?_, fun z => z.elim⟩, (show 0 ≤ yN0 33 ∧ yN0 33 ≤ 64 by decide), (show 0 ≤ yN0 13 ∧ yN0 13 ≤ 120 by decide), (show 0 ≤ yN0 14 ∧ yN0 14 ≤ 10 by decide), (show 0 ≤ yN0 15 ∧ yN0 15 ≤ 20 by decide), (show 1 ≤ yN0 43 ∧ yN0 43 ≤ 1000 by decide), (show 0 ≤ yN0 42 ∧ yN0 42 ≤ 3000 by decide), rfl⟩, fun z => absurd rfl z⟩
  · have e : (yU0 x).2.1 54 s = 0 := rfl
    rw [e]
    rcases (show s = 0 ∨ s = 1 ∨ s = 2 by omega) with rfl | rfl | rfl <;> decide
  · have e : (yU0 x).2.1 46 c = 0 := rfl
    rw [e]
    decide
