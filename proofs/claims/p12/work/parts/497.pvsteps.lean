-- deps: 496
/-- the waiting ones but the next -/
def tlW [DecidableEq Ob] (v : iST) : List Sp.Cla := (List.range (v.1 119 - 1).toNat).map (fun i : Nat => cl7 v (v.2.1 118 (v.1 119 - 1 - 1 - (i : Int))))
/-- all clauses but this one are as they were -/
def KpC [DecidableEq Ob] (v w : iST) (E : Sp.Env) : Prop := ∀ id', id' ≠ v.2.1 118 (v.1 119 - 1) → GdC v E id' → GdC w E id' ∧ cl7 w id' = cl7 v id'
theorem top_ne [DecidableEq Ob] {v : iST} {E : Sp.Env} (h : PvI v E) (hp : 0 < v.1 119) : (∀ i, 0 ≤ i → i < v.1 119 - 1 → v.2.1 118 i ≠ v.2.1 118 (v.1 119 - 1)) ∧ ∀ j, 0 ≤ j → j < v.1 63 → v.2.1 120 j ≠ v.2.1 118 (v.1 119 - 1) :=
  ⟨fun i i0 i1 => h.2.2.2.2.1 i _ i0 (by omega) (by omega), fun j j0 j1 e => h.2.2.2.2.2 (v.1 119 - 1) j (by omega) (by omega) j0 j1 e.symm⟩
theorem pv_tail [DecidableEq Ob] {v w : iST} {E : Sp.Env} (h : PvI v E) (hp : 0 < v.1 119) (hk : KpC v w E) (h118 : ∀ i, i < v.1 119 - 1 → w.2.1 118 i = v.2.1 118 i) : (List.range (v.1 119 - 1).toNat).map (fun i : Nat => cl7 w (w.2.1 118 (v.1 119 - 1 - 1 - (i : Int)))) = tlW v := by
  unfold tlW
  refine List.map_congr_left (fun i hi => ?_)
  have hi := List.mem_range.mp hi
  rw [h118 _ (by omega)]
  exact (hk _ ((top_ne h hp).1 _ (by omega) (by omega)) (h.2.2.1 _ (by omega) (by omega))).2
theorem pv_left [DecidableEq Ob] {v w : iST} {E : Sp.Env} (h : PvI v E) (hp : 0 < v.1 119) (hk : KpC v w E) (h120 : ∀ i, i < v.1 63 → w.2.1 120 i = v.2.1 120 i) : (List.range (v.1 63).toNat).map (fun i : Nat => cl7 w (w.2.1 120 (i : Int))) = lfL v := by
  unfold lfL
  refine List.map_congr_left (fun i hi => ?_)
  have hi := List.mem_range.mp hi
  rw [h120 _ (by omega)]
  exact (hk _ ((top_ne h hp).2 _ (by omega) (by omega)) (h.2.2.2.1 _ (by omega) (by omega))).2
theorem pv_pop [DecidableEq Ob] {v w : iST} {E : Sp.Env} (h : PvI v E) (hp : 0 < v.1 119) (hk : KpC v w E) (h119 : w.1 119 = v.1 119 - 1) (h63 : w.1 63 = v.1 63) (h118 : ∀ i, i < v.1 119 - 1 → w.2.1 118 i = v.2.1 118 i) (h120 : ∀ i, i < v.1 63 → w.2.1 120 i = v.2.1 120 i) : PvI w E ∧ wtL w = tlW v ∧ lfL w = lfL v := by
  have tn := top_ne h hp
  obtain ⟨p1, p2, p3, p4, p5, p6⟩ := h
  refine ⟨⟨by omega, by omega, fun i i0 i1 => ?_, fun i i0 i1 => ?_, fun i j i0 i1 i2 => ?_, fun i j i0 i1 j0 j1 => ?_⟩, ?_, ?_⟩
  · rw [h118 i (by omega)]; exact (hk _ (tn.1 i i0 (by omega)) (p3 i i0 (by omega))).1
  · rw [h120 i (by omega)]; exact (hk _ (tn.2 i i0 (by omega)) (p4 i i0 (by omega))).1
  · rw [h118 i (by omega), h118 j (by omega)]; exact p5 i j i0 i1 (by omega)
  · rw [h118 i (by omega), h120 j (by omega)]; exact p6 i j i0 (by omega) j0 (by omega)
  · rw [← pv_tail ⟨p1, p2, p3, p4, p5, p6⟩ hp hk h118]
    unfold wtL
    rw [h119]
  · rw [← pv_left ⟨p1, p2, p3, p4, p5, p6⟩ hp hk h120]
    unfold lfL
    rw [h63]
theorem pv_move [DecidableEq Ob] {v w : iST} {E : Sp.Env} (h : PvI v E) (hp : 0 < v.1 119) (hk : KpC v w E) (h119 : w.1 119 = v.1 119 - 1) (h63 : w.1 63 = v.1 63 + 1) (h118 : ∀ i, i < v.1 119 - 1 → w.2.1 118 i = v.2.1 118 i) (h120 : ∀ i, i < v.1 63 → w.2.1 120 i = v.2.1 120 i) (hl : w.2.1 120 (v.1 63) = v.2.1 118 (v.1 119 - 1)) (hg : GdC w E (v.2.1 118 (v.1 119 - 1))) : PvI w E ∧ wtL w = tlW v ∧ lfL w = lfL v ++ [cl7 w (v.2.1 118 (v.1 119 - 1))] := by
  have tn := top_ne h hp
  obtain ⟨p1, p2, p3, p4, p5, p6⟩ := h
  refine ⟨⟨by omega, by omega, fun i i0 i1 => ?_, fun i i0 i1 => ?_, fun i j i0 i1 i2 => ?_, fun i j i0 i1 j0 j1 => ?_⟩, ?_, ?_⟩
  · rw [h118 i (by omega)]; exact (hk _ (tn.1 i i0 (by omega)) (p3 i i0 (by omega))).1
  · by_cases c : i = v.1 63
    · rw [c, hl]; exact hg
    · rw [h120 i (by omega)]; exact (hk _ (tn.2 i i0 (by omega)) (p4 i i0 (by omega))).1
  · rw [h118 i (by omega), h118 j (by omega)]; exact p5 i j i0 i1 (by omega)
  · rw [h118 i (by omega)]
    by_cases c : j = v.1 63
    · rw [c, hl]; exact tn.1 i i0 (by omega)
    · rw [h120 j (by omega)]; exact p6 i j i0 (by omega) j0 (by omega)
  · rw [← pv_tail ⟨p1, p2, p3, p4, p5, p6⟩ hp hk h118]
    unfold wtL
    rw [h119]
  · rw [← pv_left ⟨p1, p2, p3, p4, p5, p6⟩ hp hk h120]
    unfold lfL
    rw [h63, show (v.1 63 + 1).toNat = (v.1 63).toNat + 1 by omega, List.range_succ, List.map_append]
    refine congrArg _ ?_
    show [cl7 w (w.2.1 120 ((v.1 63).toNat : Int))] = _
    rw [Int.toNat_of_nonneg p2, hl]
theorem pv_again [DecidableEq Ob] {v w : iST} {E : Sp.Env} (h : PvI v E) (hp : 0 < v.1 119) (hk : KpC v w E) (h119 : w.1 119 = v.1 119) (h63 : w.1 63 = v.1 63) (h118 : w.2.1 118 = v.2.1 118) (h120 : ∀ i, i < v.1 63 → w.2.1 120 i = v.2.1 120 i) (hg : GdC w E (v.2.1 118 (v.1 119 - 1))) : PvI w E ∧ wtL w = cl7 w (v.2.1 118 (v.1 119 - 1)) :: tlW v ∧ lfL w = lfL v := by
  have tn := top_ne h hp
  obtain ⟨p1, p2, p3, p4, p5, p6⟩ := h
  refine ⟨⟨by omega, by omega, fun i i0 i1 => ?_, fun i i0 i1 => ?_, fun i j i0 i1 i2 => ?_, fun i j i0 i1 j0 j1 => ?_⟩, ?_, ?_⟩
  · rw [h118]
    by_cases c : i = v.1 119 - 1
    · rw [c]; exact hg
    · exact (hk _ (tn.1 i i0 (by omega)) (p3 i i0 (by omega))).1
  · rw [h120 i (by omega)]; exact (hk _ (tn.2 i i0 (by omega)) (p4 i i0 (by omega))).1
  · rw [h118]; exact p5 i j i0 i1 (by omega)
  · rw [h118, h120 j (by omega)]; exact p6 i j i0 (by omega) j0 (by omega)
  · rw [wtL_cons (by omega), ← pv_tail ⟨p1, p2, p3, p4, p5, p6⟩ hp hk (fun i _ => by rw [h118]), h119, h118]
  · rw [← pv_left ⟨p1, p2, p3, p4, p5, p6⟩ hp hk h120]
    unfold lfL
    rw [h63]
theorem pv_two [DecidableEq Ob] {v w : iST} {E : Sp.Env} (h : PvI v E) (hp : 0 < v.1 119) (hk : KpC v w E) (h119 : w.1 119 = v.1 119 + 1) (h63 : w.1 63 = v.1 63) (h118 : ∀ i, i < v.1 119 - 1 → w.2.1 118 i = v.2.1 118 i) (h120 : ∀ i, i < v.1 63 → w.2.1 120 i = v.2.1 120 i) (ha : w.2.1 118 (v.1 119 - 1) = v.1 117 + 1) (hb : w.2.1 118 (v.1 119) = v.1 117) (ga : GdC w E (v.1 117 + 1)) (gb : GdC w E (v.1 117)) : PvI w E ∧ wtL w = cl7 w (v.1 117) :: cl7 w (v.1 117 + 1) :: tlW v ∧ lfL w = lfL v := by
  have tn := top_ne h hp
  obtain ⟨p1, p2, p3, p4, p5, p6⟩ := h
  have old : ∀ i, 0 ≤ i → i < v.1 119 - 1 → w.2.1 118 i < v.1 117 := fun i i0 i1 => by rw [h118 i i1]; exact (p3 i i0 (by omega)).2.1
  have oldl : ∀ i, 0 ≤ i → i < v.1 63 → w.2.1 120 i < v.1 117 := fun i i0 i1 => by rw [h120 i i1]; exact (p4 i i0 i1).2.1
  refine ⟨⟨by omega, by omega, fun i i0 i1 => ?_, fun i i0 i1 => ?_, fun i j i0 i1 i2 => ?_, fun i j i0 i1 j0 j1 => ?_⟩, ?_, ?_⟩
  · by_cases c : i = v.1 119
    · rw [c, hb]; exact gb
    · by_cases c2 : i = v.1 119 - 1
      · rw [c2, ha]; exact ga
      · rw [h118 i (by omega)]; exact (hk _ (tn.1 i i0 (by omega)) (p3 i i0 (by omega))).1
  · rw [h120 i (by omega)]; exact (hk _ (tn.2 i i0 (by omega)) (p4 i i0 (by omega))).1
  · by_cases c : j = v.1 119
    · by_cases c2 : i = v.1 119 - 1
      · rw [c, c2, ha, hb]; omega
      · have := old i i0 (by omega); rw [c, hb]; omega
    · by_cases c2 : j = v.1 119 - 1
      · have := old i i0 (by omega); rw [c2, ha]; omega
      · rw [h118 i (by omega), h118 j (by omega)]; exact p5 i j i0 i1 (by omega)
  · have hj := oldl j j0 (by omega)
    by_cases c : i = v.1 119
    · rw [c, hb]; omega
    · by_cases c2 : i = v.1 119 - 1
      · rw [c2, ha]; omega
      · rw [h118 i (by omega), h120 j (by omega)]; exact p6 i j i0 (by omega) j0 (by omega)
  · rw [wtL_cons (by omega), h119, show v.1 119 + 1 - 1 = v.1 119 by omega, hb, show (v.1 119).toNat = (v.1 119 - 1).toNat + 1 by omega, List.range_succ_eq_map, List.map_cons, List.map_map, ← pv_tail ⟨p1, p2, p3, p4, p5, p6⟩ hp hk h118]
    refine congrArg _ (congr (congrArg List.cons ?_) (List.map_congr_left (fun i _ => ?_)))
    · rw [show v.1 119 - 1 - ((0 : Nat) : Int) = v.1 119 - 1 by omega, ha]
    · show cl7 w (w.2.1 118 (v.1 119 - 1 - ((i + 1 : Nat) : Int))) = _
      rw [show v.1 119 - 1 - ((i + 1 : Nat) : Int) = v.1 119 - 1 - 1 - (i : Int) by omega]
  · rw [← pv_left ⟨p1, p2, p3, p4, p5, p6⟩ hp hk h120]
    unfold lfL
    rw [h63]
