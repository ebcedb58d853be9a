-- deps: 448
/-! the reference, partial: a term is made anew -/
def fI (k : Nat) : Bool := decide (k ≤ 11) || decide (66 ≤ k ∧ k ≤ 71)
theorem fT_I [DecidableEq Ob] : ∀ k, fI k = false → fT k = false := by
  intro k h
  unfold fI at h
  unfold fT
  rw [Bool.or_eq_false_iff] at h
  exact h.1
/-- rows of the making: callOf and fromOf below c, restOf below d, built below b are as they were -/
def AN [DecidableEq Ob] (u v : iST) (c d b : Int) : Prop := GZ fI u v ∧ (∀ i, i < c → v.2.1 66 i = u.2.1 66 i ∧ v.2.1 68 i = u.2.1 68 i) ∧ (∀ i, i < d → v.2.1 67 i = u.2.1 67 i) ∧ ∀ i, i < b → v.2.1 70 i = u.2.1 70 i
theorem AN.tr [DecidableEq Ob] {u v w : iST} {c d b c' d' b' : Int} (h : AN u v c d b) (g : AN v w c' d' b') (hc : c ≤ c') (hd : d ≤ d') (hb : b ≤ b') : AN u w c d b :=
  ⟨h.1.tr g.1, fun i hi => ⟨(g.2.1 i (by omega)).1.trans (h.2.1 i hi).1, (g.2.1 i (by omega)).2.trans (h.2.1 i hi).2⟩, fun i hi => (g.2.2.1 i (by omega)).trans (h.2.2.1 i hi), fun i hi => (g.2.2.2 i (by omega)).trans (h.2.2.2 i hi)⟩
theorem AN.rf [DecidableEq Ob] {u : iST} (hT : TI u) (hU : TU u) (c d b : Int) : AN u u c d b := ⟨GZ.rf hT hU, fun _ _ => ⟨rfl, rfl⟩, fun _ _ => rfl, fun _ _ => rfl⟩
theorem p_build [DecidableEq Ob] {x c : Int} {Q : iST → Prop} {u : iST} (hT : TI u) (hU : TU u) (hc : u.1 71 = c) (hq : ∀ v, (∀ a d, AN u v a d c) → v.1 69 = u.1 69 → v.1 71 = c + 1 → v.2.1 70 c = x → Q v) : pw_build x Q u := by
  unfold pw_build
  intro v1 e1 _ _ _ w ew v2 e2 _ _ w2 ew2
  subst e1 ew e2 ew2
  rw [hc]
  refine hq _ (fun a d => ⟨GZ_eq (GZ.rf hT hU) (fun k hk => ⟨if_neg (by omega), if_neg (by omega)⟩) rfl ?_, fun _ _ => ⟨rfl, rfl⟩, fun _ _ => rfl, fun i hi => if_neg (by omega)⟩) rfl (by show u.1 71 + 1 = _; omega) (if_pos rfl)
  exact (Fx_A (by decide)).tr (Fx_I (by decide))
theorem p_openCall [DecidableEq Ob] {x c : Int} {Q : iST → Prop} {u : iST} (hT : TI u) (hU : TU u) (hc : u.1 69 = c) (hq : ∀ v, (∀ b, AN u v c c b) → v.1 69 = c + 1 → v.1 71 = u.1 71 → v.2.1 66 c = x → v.2.1 67 c = u.2.1 1 x → v.2.1 68 c = u.1 71 → Q v) : pw_openCall x Q u := by
  unfold pw_openCall
  intro v1 e1 _ _ _ w1 ew1 v2 e2 _ _ _ v3 e3 _ _ _ w2 ew2 v4 e4 _ v5 e5 _ _ _ w3 ew3 v6 e6 _ _ w4 ew4
  subst e1 ew1 e2 e3 ew2 e4 e5 ew3 e6 ew4
  show Q (iI (iA (iA (iA u 66 (u.1 69) x) 67 (u.1 69) (u.2.1 1 x)) 68 (u.1 69) (u.1 71)) 69 (u.1 69 + 1))
  rw [hc]
  refine hq _ (fun b => ⟨GZ_eq (GZ.rf hT hU) (fun k hk => ⟨if_neg (by omega), (if_neg (by omega)).trans ((if_neg (by omega)).trans (if_neg (by omega)))⟩) rfl ?_, fun i hi => ⟨if_neg (by omega), if_neg (by omega)⟩, fun i hi => if_neg (by omega), fun _ _ => rfl⟩) rfl rfl (if_pos rfl) (if_pos rfl) (if_pos rfl)
  exact (((Fx_A (by decide)).tr (Fx_A (by decide))).tr (Fx_A (by decide))).tr (Fx_I (by decide))
def prs [DecidableEq Ob] (u : iST) : List (Ob × Ob) := (List.range (u.1 74).toNat).map (fun i : Nat => (ob u (u.2.1 72 (i : Int)), ob u (u.2.1 73 (i : Int))))
def PrOk [DecidableEq Ob] (u : iST) : Prop := ∀ i, 0 ≤ i → i < u.1 74 → 0 ≤ u.2.1 72 i ∧ u.2.1 72 i < u.1 8 ∧ 0 ≤ u.2.1 73 i ∧ u.2.1 73 i < u.1 8 ∧ Tm u (ob u (u.2.1 73 i))
theorem PrOk.mono [DecidableEq Ob] {u v : iST} (h : PrOk u) (hT : TI u) (hG : GZ fI u v) : PrOk v ∧ prs v = prs u := by
  have e72 := (hG.2.2.2.2 72 (by decide)).2
  have e73 := (hG.2.2.2.2 73 (by decide)).2
  have e74 := (hG.2.2.2.2 74 (by decide)).1
  have hl := hG.le
  constructor
  · intro i i0 i1
    rw [e74] at i1
    obtain ⟨a, b, c, d, e⟩ := h i i0 i1
    rw [e72, e73]
    exact ⟨a, by omega, c, by omega, by rw [hG.ob hT c d]; exact e.mono hG hT⟩
  · unfold prs
    rw [e74]
    refine List.map_congr_left (fun i hi => ?_)
    have hi := List.mem_range.mp hi
    obtain ⟨a, b, c, d, _⟩ := h i (by omega) (by omega)
    rw [e72, e73, hG.ob hT a b, hG.ob hT c d]
