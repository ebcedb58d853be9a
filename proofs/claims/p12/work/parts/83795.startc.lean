-- deps: 8379
-- nodec
/-! the class as it is new: its room is whole, its house is empty -/
def kwC : List (List Int) := [[110, 105, 108], [116], [113, 117, 111, 116, 101], [105, 102], [101, 113, 117, 97, 108], [99, 111, 110, 115], [105, 109, 112, 108, 105, 101, 115], [43], [45], [60], [99, 111, 110, 115, 112], [99, 97, 114], [99, 100, 114], [110, 97, 116, 112], [115, 121, 109, 98, 111, 108, 112], [104, 101, 105, 103, 104, 116], [110, 111, 116], [101, 118, 97, 108], [115, 105, 109, 112, 108, 105, 102, 121], [112, 114, 111, 118, 101], [100, 101, 102, 117, 110], [100, 101, 102, 116, 104, 109], [99, 104, 101, 99, 107], [111, 110], [111, 102, 102], [117, 110, 100, 111], [117, 115, 101], [116, 104, 101, 111, 114, 101, 109], [116, 97, 117, 116], [115, 97, 109, 101], [118, 97, 108, 117, 101], [102, 105, 114, 115, 116], [115, 101, 99, 111, 110, 100], [112, 97, 105, 114], [121, 101, 115], [110, 111], [100, 101, 102], [116, 104, 109], [119, 101, 97, 107], [99, 117, 116], [105, 110, 115, 116], [115, 119, 97, 112], [112, 117, 116], [105, 110, 100, 117, 99, 116]]
theorem kwC_known [DecidableEq Ob] : Ob.knownC = kwC.map Ob.sym := rfl
def cdB : Nat → Nat → Bool
  | 0, n => decide (n = 0)
  | k + 1, n => decide (n = 0) || (decide (n % 47 ≠ 0) && cdB k (n / 47))
theorem cdB_ok : ∀ k n : Nat, cdB k n = true → cdF k n
  | 0, n, h => by
    have h : decide (n = 0) = true := h
    exact (of_decide_eq_true h : n = 0)
  | k + 1, n, h => by
    have h : (decide (n = 0) || (decide (n % 47 ≠ 0) && cdB k (n / 47))) = true := h
    rw [Bool.or_eq_true, Bool.and_eq_true] at h
    rcases h with h | h
    · exact Or.inl (of_decide_eq_true h)
    · exact Or.inr ⟨of_decide_eq_true h.1, cdB_ok k _ h.2⟩
theorem kCs_w : kCs.map (fun c : Int64 => wdC (c.toInt - 4611686018427387904).toNat) = kwC := by decide +kernel
theorem kCs_c : ∀ c, c ∈ kCs → 4611686018427387904 ≤ c.toInt ∧ c.toInt < 9223372036854775808 ∧ (c.toInt - 4611686018427387904).toNat ≠ 0 ∧ cdB 11 (c.toInt - 4611686018427387904).toNat = true := by decide +kernel
theorem kCs_d : ∀ i : Nat, i < 44 → ∀ j : Nat, j < i → kCs[j]? ≠ kCs[i]? := by decide +kernel
theorem kCs_at {x : rST} (h : rO3 x) {j : Nat} (hj : j < 44) : kCs[j]? = some (x.1 j) := by
  rw [← h.2, List.getElem?_map, List.getElem?_range hj]
  rfl
theorem k44 {x : rST} (h : rO3 x) {k : Int} (k0 : 0 ≤ k) (k1 : k < 44) : 4611686018427387904 ≤ (yU0 x).2.2 k ∧ (yU0 x).2.2 k < 9223372036854775808 ∧ cdOk ((yU0 x).2.2 k - 4611686018427387904).toNat := by
  obtain ⟨a, b, c, d⟩ := kCs_c _ (List.mem_of_getElem? (kCs_at h (j := k.toNat) (by omega)))
  exact ⟨a, b, c, cdB_ok _ _ d⟩
theorem slo_i {x y : Int64} (h : cSl x.toInt = cSl y.toInt) : slo x = slo y := by
  rw [cSl_slo, cSl_slo] at h
  exact Int32.toInt_inj.mp h
theorem yU0_T [DecidableEq Ob] {x : rST} (hn : x.2.2.2.2.2 = 44) (h : rO3 x) : CT (yU0 x) := by
  have u29 : (yU0 x).1 29 = 44 := rfl
  have hJ := (yU0_J hn h).1.1
  obtain ⟨r1, r2, r3, r4⟩ := hJ
  have ho := h.1
  obtain ⟨_, _, _, h4, h5, h6⟩ := ho
  rw [hn] at h4 h5 h6
  have oc' : ∀ j : Nat, j < 44 → oc (yU0 x) (j : Int) = Ob.sym (kwC.getD j []) := fun j hj => by
    rw [oc_sym (k44 h (k := (j : Int)) (by omega) (by omega)).1]
    have e : kwC[j]? = some (wdC ((x.1 j).toInt - 4611686018427387904).toNat) := by
      rw [← kCs_w, List.getElem?_map, kCs_at h hj]
      rfl
    rw [List.getD_eq_getElem?_getD, e]
    rfl
  refine ⟨⟨r1, fun k k0 k1 => ?_, fun i j i0 ij j1 e => ?_⟩, ⟨fun j j0 j1 => ?_, fun q q0 q1 => ?_⟩, fun k k0 k1 => ?_, fun i hi => ?_⟩
  · obtain ⟨a, b, c⟩ := k44 h k0 (by omega)
    exact ⟨fun z => by omega, fun _ => ⟨b, c⟩⟩
  · have e : (x.1 i.toNat).toInt = (x.1 j.toNat).toInt := e
    have e := Int64.toInt_inj.mp e
    refine kCs_d j.toNat (by omega) i.toNat (by omega) ?_
    rw [kCs_at h (by omega), kCs_at h (by omega), e]
  · obtain ⟨a1, a2, a3, _⟩ := r3 j j0 j1
    refine ⟨a1, a2, a3, fun i i0 i1 e => ?_⟩
    obtain ⟨k, k1, k2, k3⟩ := h5 i.toNat j.toNat (by omega) (by omega) (slo_i e)
    show i ≤ (x.2.1 j.toNat).toInt
    rw [k3, nI_int (by omega)]
    omega
  · obtain ⟨a1, a2, a3⟩ := r4 q q0 q1
    refine ⟨a1, a2, a3, fun i i0 i1 e => ?_⟩
    have e : cSl (x.1 i.toNat).toInt = q := e
    obtain ⟨k, k1, k2, k3⟩ := h6 q.toNat i.toNat (by omega) (by omega) (by
      rw [cSl_slo] at e
      refine Int32.toInt_inj.mp ?_
      rw [e, nI_int (by omega)]
      omega)
    show i ≤ (x.2.2.2.2.1 q.toNat).toInt
    rw [k3, nI_int (by omega)]
    omega
  · obtain ⟨j, hj, rfl⟩ : ∃ j : Nat, j < 44 ∧ k = (j : Int) := ⟨k.toNat, by omega, by omega⟩
    have s := h4 j hj
    have e28 : (yU0 x).2.1 28 (j : Int) = 0 := by show (x.2.2.1 j).toInt = 0; rw [s.1]; rfl
    have e29 : (yU0 x).2.1 29 (j : Int) = 0 := by show (x.2.2.2.1 j).toInt = 0; rw [s.2]; rfl
    rw [e28, e29, oc' j hj]
    exact ⟨rfl, rfl⟩
  · rw [oc' i hi, kwC_known, List.getElem?_map]
    have hl : kwC.length = 44 := rfl
    rw [List.getD_eq_getElem?_getD, List.getElem?_eq_getElem (by omega)]
    rfl
theorem yU0_C [DecidableEq Ob] {x : rST} (hn : x.2.2.2.2.2 = 44) (h : rO3 x) : CfS (yU0 x) Sp.St0 44 := by
  have hT := yU0_T hn h
  have n : ∀ k, (yU0 x).1 k = yN0 k := fun _ => rfl
  have r0 : ∀ k i, k ≠ 27 → k ≠ 28 → k ≠ 29 → k ≠ 30 → k ≠ 57 → (yU0 x).2.1 k i = 0 := fun k i a b c d e => by
    show (if k = 27 then _ else if k = 28 then _ else if k = 29 then _ else if k = 30 then _ else if k = 57 then _ else 0) = 0
    rw [if_neg a, if_neg b, if_neg c, if_neg d, if_neg e]
  have u0 : (yU0 x).1 0 = 0 := rfl
  have u1 : (yU0 x).1 1 = 0 := rfl
  have u2 : (yU0 x).1 2 = 0 := rfl
  have u3 : (yU0 x).1 3 = 44 := rfl
  have u29 : (yU0 x).1 29 = 44 := rfl
  have u42 : (yU0 x).1 42 = 0 := rfl
  have w5 : wt5 (yU0 x) = [0, 0, 0, 0, 0] := by
    unfold wt5
    rw [r0 45 0 (by decide) (by decide) (by decide) (by decide) (by decide), r0 45 1 (by decide) (by decide) (by decide) (by decide) (by decide), r0 45 2 (by decide) (by decide) (by decide) (by decide) (by decide), r0 45 3 (by decide) (by decide) (by decide) (by decide) (by decide), r0 45 4 (by decide) (by decide) (by decide) (by decide) (by decide)]
  have k0 : kdC (yU0 x) = [] := by unfold kdC; rw [u2]; rfl
  have low : ∀ m, LowAt (yU0 x) m 0 := fun m => by
    unfold LowAt
    rw [k0]
    refine ⟨fun d d0 d1 => ?_, fun k q0 q1 => ?_⟩
    · have d1 : d < ((0 : Nat) : Int) := d1
      omega
    · have q1 : k < ((0 : Nat) : Int) := q1
      omega
  have row57 : ∀ k, 0 ≤ k → k < 256 → (yU0 x).2.1 57 k = 152 + k := fun k a b => by
    show (if 0 ≤ k ∧ k < 256 then 152 + k else (152 : Int)) = 152 + k
    rw [if_pos ⟨a, b⟩]
  have hc : HC (yU0 x) ([], [], []) [] := by
    refine ⟨hT, ⟨?_, by rw [u0]; decide, fun d d0 d1 => by rw [u0] at d1; omega⟩, ⟨?_, fun r hr => by rw [u1] at hr; omega⟩, fun j hj => by rw [u1] at hj; omega, ⟨HOk_nil, by decide, by decide⟩, ⟨by rw [u2]; decide, k0.symm⟩, ⟨⟨by rw [u3]; decide, by rw [u3, u29]; decide, by rw [u2]; exact low _⟩, fun j j0 j1 => by rw [u2] at j1; omega⟩, ⟨rfl, rfl⟩, fun k a b => ?_, fun k k' a b a' b' e => ?_⟩
    · unfold dfsC
      rw [u0]
      rfl
    · rw [u1]
      rfl
    · rw [row57 k a b]
      omega
    · rw [row57 k a b, row57 k' a' b'] at e
      omega
  refine ⟨⟨[], hc⟩, fun D hD => absurd hD List.not_mem_nil, ⟨(show (1000 : Nat) ≤ 1000 from Nat.le_refl _), rfl⟩, ⟨by rw [u42]; decide, fun i i0 i1 => by rw [u42] at i1; omega, by rw [u42]; rfl⟩, by rw [w5]; exact feedW_0, rfl, ⟨fun _ => rfl, fun _ => rfl⟩, ?_⟩
  have z : wzC (yU0 x) = 0 := by unfold wzC; rw [if_pos w5]
  have z2 : nzT Sp.St0.2.2.1 = 0 := rfl
  rw [z, z2, u3]
  decide
