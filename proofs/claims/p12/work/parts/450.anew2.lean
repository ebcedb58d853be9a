-- deps: 449
theorem lk_none [DecidableEq Ob] {u : iST} (hT : TI u) (hU : TU u) {x : Int} (x0 : 0 ≤ x) (x1 : x < u.1 8) (l : List Nat) (hl : ∀ i, i ∈ l → 0 ≤ u.2.1 72 (i : Int) ∧ u.2.1 72 (i : Int) < u.1 8 ∧ u.2.1 72 (i : Int) ≠ x) :
    Ob.lk (l.map (fun i : Nat => (ob u (u.2.1 72 (i : Int)), ob u (u.2.1 73 (i : Int))))) (ob u x) = none := by
  induction l with
  | nil => rfl
  | cons i l ih =>
    have a := hl i List.mem_cons_self
    show (if ob u (u.2.1 72 (i : Int)) = ob u x then _ else _) = none
    rw [if_neg (fun e => a.2.2 ((hT.inj hU a.1 a.2.1 x0 x1).mp e))]
    exact ih (fun j hj => hl j (List.mem_cons_of_mem _ hj))
theorem lk_some [DecidableEq Ob] {u : iST} (hT : TI u) (hU : TU u) {x : Int} (x0 : 0 ≤ x) (x1 : x < u.1 8) (i : Nat) (he : u.2.1 72 (i : Int) = x) (l l' : List Nat) (hl : ∀ i, i ∈ l → 0 ≤ u.2.1 72 (i : Int) ∧ u.2.1 72 (i : Int) < u.1 8 ∧ u.2.1 72 (i : Int) ≠ x) :
    Ob.lk ((l ++ i :: l').map (fun i : Nat => (ob u (u.2.1 72 (i : Int)), ob u (u.2.1 73 (i : Int))))) (ob u x) = some (ob u (u.2.1 73 (i : Int))) := by
  induction l with
  | nil =>
    show (if ob u (u.2.1 72 (i : Int)) = ob u x then _ else _) = _
    rw [he, if_pos rfl]
  | cons j l ih =>
    have a := hl j List.mem_cons_self
    show (if ob u (u.2.1 72 (j : Int)) = ob u x then _ else _) = _
    rw [if_neg (fun e => a.2.2 ((hT.inj hU a.1 a.2.1 x0 x1).mp e))]
    exact ih (fun j hj => hl j (List.mem_cons_of_mem _ hj))
theorem p_substituted [DecidableEq Ob] {x : Int} {Q : Int → iST → Prop} {u : iST} (hT : TI u) (hU : TU u) (h : PrOk u) (x0 : 0 ≤ x) (x1 : x < u.1 8) (ht : Tm u (ob u x))
    (hq : ∀ k, 0 ≤ k → k < u.1 8 → Tm u (ob u k) → ob u k = Ob.lkD (prs u) (ob u x) → Q k u) : pw_substituted x Q u := by
  unfold pw_substituted
  refine pw_substituted_2_i (fun y i v => v = u ∧ y = x ∧ 0 ≤ i ∧ ∀ j, 0 ≤ j → j < i → j < u.1 74 → u.2.1 72 j ≠ x) ?_ ⟨rfl, rfl, by omega, fun j j0 j1 => by omega⟩
  intro y i v hI
  obtain ⟨rfl, rfl, i0, hi⟩ := hI
  unfold pw_substituted_2b
  intro n en _
  subst en
  refine ⟨fun hc => hq y x0 x1 ht ?_, fun hc => ?_⟩
  · unfold Ob.lkD prs
    rw [lk_none hT hU x0 x1 _ (fun j hj => ?_)]
    · rfl
    · have hj := List.mem_range.mp hj
      obtain ⟨a, b, _⟩ := h j (by omega) (by omega)
      exact ⟨a, b, hi j (by omega) (by omega) (by omega)⟩
  · intro _ _ z ez _
    subst ez
    refine ⟨fun hd _ => ⟨rfl, rfl, by omega, fun j j0 j1 j2 => ?_⟩, fun hd => ?_⟩
    · by_cases e : j = i
      · subst e; exact hd
      · exact hi j j0 (by omega) j2
    · have hd : v.2.1 72 i = y := Decidable.not_not.mp hd
      intro _ _ z ez _
      subst ez
      obtain ⟨a, b, c, d, e⟩ := h i i0 (by omega)
      refine hq _ c d e ?_
      have hs : List.range (v.1 74).toNat = List.range i.toNat ++ i.toNat :: (List.range ((v.1 74).toNat - i.toNat - 1)).map (fun k => i.toNat + 1 + k) := by
        refine List.ext_getElem (by simp; omega) (fun k k1 k2 => ?_)
        rw [List.getElem_range]
        rcases Nat.lt_trichotomy k i.toNat with c | c | c
        · rw [List.getElem_append_left (by simpa using c), List.getElem_range]
        · subst c; rw [List.getElem_append_right (by simp)]; simp
        · rw [List.getElem_append_right (by simp; omega)]
          obtain ⟨m, rfl⟩ : ∃ m, k = i.toNat + 1 + m := ⟨k - i.toNat - 1, by omega⟩
          simp only [List.length_range]
          have em : i.toNat + 1 + m - i.toNat = m + 1 := by omega
          simp only [em, List.getElem_cons_succ, List.getElem_map, List.getElem_range]
      have ei : ((i.toNat : Nat) : Int) = i := by omega
      have := lk_some hT hU x0 x1 i.toNat (by rw [ei]; exact hd) (List.range i.toNat) ((List.range ((v.1 74).toNat - i.toNat - 1)).map (fun k => i.toNat + 1 + k)) (fun j hj => by
        have hj := List.mem_range.mp hj
        obtain ⟨a, b, _⟩ := h j (by omega) (by omega)
        exact ⟨a, b, hi j (by omega) (by omega) (by omega)⟩)
      unfold Ob.lkD prs
      rw [hs, this, ei]
      rfl
