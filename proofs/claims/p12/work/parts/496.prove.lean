-- deps: 495
/-- a clause as it stands -/
def cl7 [DecidableEq Ob] (v : iST) (id : Int) : Sp.Cla := (lits v id, (v.2.1 116 id).toNat)
/-- those that wait (the next one first), those LEFT -/
def wtL [DecidableEq Ob] (v : iST) : List Sp.Cla := (List.range (v.1 119).toNat).map (fun i : Nat => cl7 v (v.2.1 118 (v.1 119 - 1 - (i : Int))))
def lfL [DecidableEq Ob] (v : iST) : List Sp.Cla := (List.range (v.1 63).toNat).map (fun i : Nat => cl7 v (v.2.1 120 (i : Int)))
/-- a clause that may be worked on -/
def GdC [DecidableEq Ob] (v : iST) (E : Sp.Env) (id : Int) : Prop := 0 ≤ id ∧ id < v.1 117 ∧ ClOk v E id
def PvI [DecidableEq Ob] (v : iST) (E : Sp.Env) : Prop := 0 ≤ v.1 119 ∧ 0 ≤ v.1 63 ∧ (∀ i, 0 ≤ i → i < v.1 119 → GdC v E (v.2.1 118 i)) ∧ (∀ i, 0 ≤ i → i < v.1 63 → GdC v E (v.2.1 120 i)) ∧ (∀ i j, 0 ≤ i → i < j → j < v.1 119 → v.2.1 118 i ≠ v.2.1 118 j) ∧ ∀ i j, 0 ≤ i → i < v.1 119 → 0 ≤ j → j < v.1 63 → v.2.1 118 i ≠ v.2.1 120 j
theorem wtL_cons [DecidableEq Ob] {v : iST} (h : 0 < v.1 119) : wtL v = cl7 v (v.2.1 118 (v.1 119 - 1)) :: (List.range (v.1 119 - 1).toNat).map (fun i : Nat => cl7 v (v.2.1 118 (v.1 119 - 1 - 1 - (i : Int)))) := by
  unfold wtL
  rw [show (v.1 119).toNat = (v.1 119 - 1).toNat + 1 by omega, List.range_succ_eq_map, List.map_cons, List.map_map]
  refine congr (congrArg List.cons ?_) (List.map_congr_left (fun i _ => ?_))
  · rw [show v.1 119 - 1 - ((0 : Nat) : Int) = v.1 119 - 1 by omega]
  · show cl7 v (v.2.1 118 (v.1 119 - 1 - ((i + 1 : Nat) : Int))) = _
    rw [show v.1 119 - 1 - ((i + 1 : Nat) : Int) = v.1 119 - 1 - 1 - (i : Int) by omega]
/-- a clause that is not touched -/
theorem RO.cl [DecidableEq Ob] {id id' : Int} {u v : iST} {E : Sp.Env} (h : RO id u v) (hT : TI u) (hne : id' ≠ id) (hC : GdC u E id') : GdC v E id' ∧ cl7 v id' = cl7 u id' := by
  obtain ⟨d0, d1, c0, c1, c2, c3⟩ := hC
  obtain ⟨a1, a2, ⟨a3, a4, a5⟩, ⟨a6, a7, a8⟩, a9, a10⟩ := h
  have e115 := a9 id' hne
  have cell : ∀ i, 0 ≤ i → i < u.2.1 115 id' → v.2.1 114 (30 * id' + i) = u.2.1 114 (30 * id' + i) := fun i i0 i1 => a10 _ (by omega)
  refine ⟨⟨d0, by rw [a4]; exact d1, by rw [e115]; exact c0, by rw [e115]; exact c1, by rw [a6]; exact c2, fun i i0 i1 => ?_⟩, ?_⟩
  · rw [e115] at i1
    rw [cell i i0 i1]
    exact ((c3 i i0 i1).mono hT a1).1
  · unfold cl7 lits
    rw [e115, a6]
    refine congrArg (fun l => (l, (u.2.1 116 id').toNat)) (ls_congr (fun i hi => ?_))
    rw [cell _ (by omega) (by omega)]
    exact ((c3 _ (by omega) (by omega)).mono hT a1).2
theorem p_leave [DecidableEq Ob] {id : Int} {Q : iST → Prop} {u : iST} (hT : TI u) (hU : TU u) (hq : ∀ w, GZ f7Z u w → (∀ k, k ≠ 63 → k ≠ 119 → w.1 k = u.1 k) → w.1 63 = u.1 63 + 1 → w.1 119 = u.1 119 - 1 → (∀ q, q ≠ 120 → w.2.1 q = u.2.1 q) → (∀ i, w.2.1 120 i = if i = u.1 63 then id else u.2.1 120 i) → Q w) : pw_leave id Q u := by
  unfold pw_leave
  intro x ex _ _ _ w1 e1 y ey _ _ w2 e2 z ez _ _ w3 e3
  subst ex
  have hy : y = u.1 63 := by rw [ey, e1]; rfl
  have hz : z = u.1 119 := by rw [ez, e2, e1]; rfl
  rw [hy] at e2
  rw [hz] at e3
  refine hq w3 ?_ (fun k a b => by rw [e3, e2, e1]; exact (if_neg b).trans (if_neg a)) (by rw [e3, e2]; rfl) (by rw [e3]; rfl) (fun q hq => by rw [e3, e2, e1]; exact if_neg hq) (fun i => by rw [e3, e2, e1]; rfl)
  rw [e3, e2, e1]
  exact GZ_eq (GZ.rf hT hU) (fun k hk => ⟨(if_neg (by omega)).trans (if_neg (by omega)), if_neg (by omega)⟩) rfl (((Fx_A (by decide)).tr (Fx_I (by decide))).tr (Fx_I (by decide)))
/-- what the lists are when other clauses are as they were -/
theorem wt_same [DecidableEq Ob] {u v : iST} {n : Nat} {f g : Int → Int} {lo : Int} (h : ∀ i : Nat, i < n → cl7 v (g (lo - (i : Int))) = cl7 u (f (lo - (i : Int)))) : (List.range n).map (fun i : Nat => cl7 v (g (lo - (i : Int)))) = (List.range n).map (fun i : Nat => cl7 u (f (lo - (i : Int)))) := List.map_congr_left (fun i hi => h i (List.mem_range.mp hi))
theorem lf_same [DecidableEq Ob] {u v : iST} {n : Nat} {f g : Int → Int} (h : ∀ i : Nat, i < n → cl7 v (g (i : Int)) = cl7 u (f (i : Int))) : (List.range n).map (fun i : Nat => cl7 v (g (i : Int))) = (List.range n).map (fun i : Nat => cl7 u (f (i : Int))) := List.map_congr_left (fun i hi => h i (List.mem_range.mp hi))
def f7Y (k : Nat) : Bool := f7Z k || decide (k = 62)
theorem f7Z_Y [DecidableEq Ob] : ∀ k, f7Y k = false → f7Z k = false := by
  intro k h
  unfold f7Y at h
  rw [Bool.or_eq_false_iff] at h
  exact h.1
/-- how proving stands -/
def PvJ [DecidableEq Ob] (u : iST) (E : Sp.Env) (p0 : Sp.Pv) (v : iST) : Prop := (GZ f7Z u v ∧ v.1 71 = u.1 71 ∧ v.1 64 = 0 ∧ v.1 61 = 0 ∧ PvI v E ∧ ∃ s, StL v s ∧ ∀ r, Sp.PvEnd E (wtL v, lfL v, s) r → Sp.PvEnd E p0 r) ∨ (GZ f7Z u v ∧ v.1 64 = 0 ∧ v.1 61 ≠ 0 ∧ ∃ s, StL v s ∧ Sp.PvEnd E p0 (none, s))
