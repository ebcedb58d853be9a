-- deps: 469
def f7P (k : Nat) : Bool := decide (72 ≤ k ∧ k ≤ 74)
theorem lkD_of [DecidableEq Ob] {s : Ob → Ob} : ∀ (L : List (Ob × Ob)) (x : Ob), (∀ q, q ∈ L → s q.1 = q.2) → (∃ q, q ∈ L ∧ q.1 = x) → Ob.lkD L x = s x
  | [], x, _, ⟨q, h, _⟩ => by cases h
  | (a, b) :: L, x, h, hx => by
    unfold Ob.lkD
    rw [lk_cons]
    by_cases c : a = x
    · rw [if_pos c, ← c, h (a, b) List.mem_cons_self]; rfl
    · rw [if_neg c]
      obtain ⟨q, hq, e⟩ := hx
      rcases List.mem_cons.mp hq with z | z
      · rw [z] at e; exact absurd e c
      · exact lkD_of L x (fun q hq => h q (List.mem_cons_of_mem _ hq)) ⟨q, z, e⟩
theorem p_takePairs [DecidableEq Ob] {k only : Int} {Q : iST → Prop} {u : iST} {E : Sp.Env} {p : Ob} (hT : TI u) (hU : TU u) (hB : BdOk u E k only p)
    (hq : ∀ v, GZ f7P u v → PrOk v → (∀ s, AgB u k s → ∀ x, Ky u k x → Ob.lkD (prs v) x = s x) → (∀ i, 0 ≤ i → i < v.1 74 → Nd v E (v.2.1 72 i) ∧ Nd v E (v.2.1 73 i) ∧ vr false p (ob v (v.2.1 72 i))) → Q v) : pw_takePairs k Q u := by
  obtain ⟨b0, b1, b2, b3⟩ := hB
  unfold pw_takePairs
  intro _ _ x ex _ w ew
  subst ex
  have gw : GZ f7P u w := by subst ew; exact GZ_eq (GZ.rf hT hU) (fun k hk => ⟨if_neg (by omega), rfl⟩) rfl (Fx_I (by decide))
  have w74 : w.1 74 = u.2.1 107 k := by rw [ew]; rfl
  have wr : w.2 = u.2 := by rw [ew]; rfl
  clear ew
  refine pw_takePairs_12_i (fun x1 x2 v => x1 = k ∧ 0 ≤ x2 ∧ GZ f7P u v ∧ v.1 74 = u.2.1 107 k ∧ (∀ j, j ≠ 72 → j ≠ 73 → v.2.1 j = u.2.1 j) ∧ ∀ i, 0 ≤ i → i < x2 → v.2.1 72 i = u.2.1 105 (130 * k + i) ∧ v.2.1 73 i = u.2.1 106 (130 * k + i)) ?_ ⟨rfl, by omega, gw, w74, fun j _ _ => by rw [wr], fun i i0 i1 => by omega⟩
  clear gw w74 wr
  intro x1 x2 v hI
  obtain ⟨e1, i0, gv, v74, vr', hi⟩ := hI
  rw [e1]
  unfold pw_takePairs_12b
  intro x ex _
  subst ex
  refine ⟨fun hc => ?_, fun hc => ?_⟩
  · rw [v74] at hc
    have nd : ∀ j, Nd u E j → Nd v E j ∧ ob v j = ob u j := fun j hj => hj.mono hT gv
    have ent : ∀ i, 0 ≤ i → i < u.2.1 107 k → Nd v E (v.2.1 72 i) ∧ Nd v E (v.2.1 73 i) ∧ ob v (v.2.1 72 i) = ob u (u.2.1 105 (130 * k + i)) ∧ ob v (v.2.1 73 i) = ob u (u.2.1 106 (130 * k + i)) ∧ vr false p (ob v (v.2.1 72 i)) := by
      intro i j0 j1
      obtain ⟨z1, z2⟩ := hi i j0 (by omega)
      obtain ⟨p1, p2, p3, _⟩ := b1 i j0 j1
      rw [z1, z2, (nd _ p1).2, (nd _ p3).2]
      exact ⟨(nd _ p1).1, (nd _ p3).1, rfl, rfl, p2⟩
    refine hq v gv (fun i j0 j1 => ?_) (fun s hs x hx => ?_) (fun i j0 j1 => ?_)
    · rw [v74] at j1
      obtain ⟨z1, z2, _⟩ := ent i j0 j1
      exact ⟨z1.1, z1.2.1, z2.1, z2.2.1, z2.2.2.1⟩
    · refine lkD_of _ x (fun q hq => ?_) ?_
      · obtain ⟨i, hi', rfl⟩ := List.mem_map.mp hq
        have hi' := List.mem_range.mp hi'
        obtain ⟨_, _, z3, z4, _⟩ := ent (i : Int) (by omega) (by omega)
        show s (ob v (v.2.1 72 (i : Int))) = ob v (v.2.1 73 (i : Int))
        rw [z3, z4]
        exact hs i (by omega) (by omega)
      · obtain ⟨i, j0, j1, j2⟩ := hx
        refine ⟨_, List.mem_map.mpr ⟨i.toNat, List.mem_range.mpr (by omega), rfl⟩, ?_⟩
        show ob v (v.2.1 72 ((i.toNat : Nat) : Int)) = x
        rw [Int.toNat_of_nonneg j0, (ent i j0 j1).2.2.1]
        exact j2
    · rw [v74] at j1
      obtain ⟨z1, z2, _, _, z5⟩ := ent i j0 j1
      exact ⟨z1, z2, z5⟩
  · intro _ _ _ _ y1 ey1 _ _ _ w1 ew1 _ _ _ _ y2 ey2 _ _ _ w2 ew2 _
    have r105 := vr' 105 (by decide) (by decide)
    have r106 := vr' 106 (by decide) (by decide)
    have q2 : y2 = u.2.1 106 (130 * k + x2) := by rw [ey2, ew1]; show v.2.1 106 _ = _; rw [r106]
    have q1 : y1 = u.2.1 105 (130 * k + x2) := by rw [ey1, r105]
    refine ⟨rfl, by omega, ?_, ?_, fun j j1 j2 => ?_, fun i j0 j1 => ?_⟩
    · have h1 : GZ f7P v w2 := by
        rw [ew2, ew1]
        exact GZ_eq (GZ.rf gv.1 gv.2.1) (fun k hk => ⟨rfl, (if_neg (by omega)).trans (if_neg (by omega))⟩) rfl ((Fx_A (by decide)).tr (Fx_A (by decide)))
      exact gv.tr h1
    · rw [ew2, ew1]; exact v74
    · rw [ew2, ew1]
      exact (if_neg j2).trans ((if_neg j1).trans (vr' j j1 j2))
    · have a1 : w2.2.1 72 i = if i = x2 then y1 else v.2.1 72 i := by rw [ew2, ew1]; rfl
      have a2 : w2.2.1 73 i = if i = x2 then y2 else v.2.1 73 i := by rw [ew2, ew1]; rfl
      rw [a1, a2]
      by_cases c : i = x2
      · rw [if_pos c, if_pos c, q1, q2, c]; exact ⟨rfl, rfl⟩
      · rw [if_neg c, if_neg c]; exact hi i j0 (by omega)
