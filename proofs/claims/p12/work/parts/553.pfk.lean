-- deps: 552
/-! the reference: a PROOF is gone through: what stays, the clause laid down -/
def f7Pf (k : Nat) : Bool := f7Cc k || decide (141 ≤ k ∧ k ≤ 148)
theorem f7Cc_Pf [DecidableEq Ob] : ∀ k, f7Pf k = false → f7Cc k = false := by
  intro k h
  unfold f7Pf at h
  rw [Bool.or_eq_false_iff] at h
  exact h.1
theorem f7Cm_Pf [DecidableEq Ob] : ∀ k, f7Pf k = false → f7Cm k = false := by
  intro k h
  unfold f7Pf f7Cc f7O f7I f7M fI at h
  unfold f7Cm
  simp only [Bool.or_eq_false_iff, decide_eq_false_iff_not] at h ⊢
  omega
theorem f7M_Pf [DecidableEq Ob] : ∀ k, f7Pf k = false → f7M k = false := fun k h => f7M_Cc k (f7Cc_Pf k h)
theorem f7Pf_K [DecidableEq Ob] : ∀ k, f7K k = false → f7Pf k = false := by
  intro k h
  have := f7K_in h
  unfold f7Pf
  rw [f7Cc_K k h, Bool.false_or, decide_eq_false_iff_not]
  omega
theorem f7Pf_in [DecidableEq Ob] {k : Nat} (h0 : 141 ≤ k) (h1 : k ≤ 148) : f7Pf k = true := by
  unfold f7Pf
  rw [decide_eq_true (show 141 ≤ k ∧ k ≤ 148 from ⟨h0, h1⟩), Bool.or_true]
theorem f7Pf_ge [DecidableEq Ob] {k : Nat} (h : f7Pf k = false) : 12 ≤ k ∧ k ≠ 71 ∧ (k < 141 ∨ 148 < k) := by
  unfold f7Pf f7Cc f7O f7I f7M fI at h
  simp only [Bool.or_eq_false_iff, decide_eq_false_iff_not] at h
  omega
def PfK [DecidableEq Ob] (n c : Int) (u v : iST) : Prop := GZ f7Pf u v ∧ v.1 71 = u.1 71 ∧ (∀ k, k < n → v.2.1 141 k = u.2.1 141 k ∧ v.2.1 142 k = u.2.1 142 k ∧ v.2.1 143 k = u.2.1 143 k) ∧ (∀ k, k < c → v.2.1 146 k = u.2.1 146 k) ∧ ∀ k, k < 30 * c → v.2.1 145 k = u.2.1 145 k
theorem PfK.rf [DecidableEq Ob] {n c : Int} {u : iST} (hT : TI u) (hU : TU u) : PfK n c u u := ⟨GZ.rf hT hU, rfl, fun _ _ => ⟨rfl, rfl, rfl⟩, fun _ _ => rfl, fun _ _ => rfl⟩
theorem PfK.tr [DecidableEq Ob] {n c n' c' : Int} {u v w : iST} (h : PfK n c u v) (g : PfK n' c' v w) (hn : n ≤ n') (hc : c ≤ c') : PfK n c u w := by
  obtain ⟨h1, h2, h3, h4, h5⟩ := h
  obtain ⟨g1, g2, g3, g4, g5⟩ := g
  refine ⟨h1.tr g1, g2.trans h2, fun k hk => ?_, fun k hk => (g4 k (by omega)).trans (h4 k hk), fun k hk => (g5 k (by omega)).trans (h5 k hk)⟩
  obtain ⟨a1, a2, a3⟩ := g3 k (by omega)
  obtain ⟨b1, b2, b3⟩ := h3 k hk
  exact ⟨a1.trans b1, a2.trans b2, a3.trans b3⟩
theorem PfK.of [DecidableEq Ob] {n c : Int} {u v : iST} {m : Nat → Bool} (g : GZ m u v) (hm : ∀ k, f7Pf k = false → m k = false) (h71 : v.1 71 = u.1 71) (hr : ∀ k, 141 ≤ k → k ≤ 146 → m k = false) : PfK n c u v := by
  refine ⟨g.mono hm, h71, fun k _ => ⟨?_, ?_, ?_⟩, fun k _ => ?_, fun k _ => ?_⟩
  · rw [(g.2.2.2.2 141 (hr _ (by decide) (by decide))).2]
  · rw [(g.2.2.2.2 142 (hr _ (by decide) (by decide))).2]
  · rw [(g.2.2.2.2 143 (hr _ (by decide) (by decide))).2]
  · rw [(g.2.2.2.2 146 (hr _ (by decide) (by decide))).2]
  · rw [(g.2.2.2.2 145 (hr _ (by decide) (by decide))).2]
theorem f7Cc_141 [DecidableEq Ob] : ∀ k, 141 ≤ k → k ≤ 146 → f7Cc k = false := by
  intro k h0 h1
  unfold f7Cc f7O f7I f7M fI
  simp only [Bool.or_eq_false_iff, decide_eq_false_iff_not]
  omega
theorem f7Cm_141 [DecidableEq Ob] : ∀ k, 141 ≤ k → k ≤ 146 → f7Cm k = false := by
  intro k h0 h1
  unfold f7Cm
  simp only [Bool.or_eq_false_iff, decide_eq_false_iff_not]
  omega
theorem f7M_141 [DecidableEq Ob] : ∀ k, 141 ≤ k → k ≤ 146 → f7M k = false := by
  intro k h0 h1
  unfold f7M fI
  simp only [Bool.or_eq_false_iff, decide_eq_false_iff_not]
  omega
theorem PfK_I [DecidableEq Ob] {n c x : Int} {u : iST} {k : Nat} (hT : TI u) (hU : TU u) (hk : 11 < k) (h71 : k ≠ 71) (hf : f7Pf k = true) : PfK n c u (iI u k x) :=
  ⟨GZ_eq (GZ.rf hT hU) (fun j hj => ⟨if_neg (by omega), rfl⟩) rfl (Fx_I hf), if_neg (by omega), fun _ _ => ⟨rfl, rfl, rfl⟩, fun _ _ => rfl, fun _ _ => rfl⟩
theorem PfK_A [DecidableEq Ob] {n c i x : Int} {u : iST} {k : Nat} (hT : TI u) (hU : TU u) (h0 : 141 ≤ k) (h1 : k ≤ 146) (hn : k ≤ 143 → n ≤ i) (h5 : k = 145 → 30 * c ≤ i) (h6 : k = 146 → c ≤ i) : PfK n c u (iA u k i x) := by
  have far : ∀ g j, (g = k → j ≠ i) → (iA u k i x).2.1 g j = u.2.1 g j := fun g j h => by
    show (if g = k then (fun y => if y = i then x else u.2.1 k y) else u.2.1 g) j = _
    by_cases c1 : g = k
    · rw [if_pos c1]
      show (if j = i then x else u.2.1 k j) = _
      rw [if_neg (h c1), c1]
    · rw [if_neg c1]
  exact ⟨GZ_eq (GZ.rf hT hU) (fun j hj => ⟨rfl, if_neg (by omega)⟩) rfl (Fx_A (f7Pf_in h0 (by omega))), rfl, fun j hj => ⟨far 141 j (fun e => by have := hn (by omega); omega), far 142 j (fun e => by have := hn (by omega); omega), far 143 j (fun e => by have := hn (by omega); omega)⟩, fun j hj => far 146 j (fun e => by have := h6 e.symm; omega), fun j hj => far 145 j (fun e => by have := h5 e.symm; omega)⟩
/-- the clause of a PROOF is laid down -/
theorem pf_copy [DecidableEq Ob] {L : iST → Prop} {x : iST} {E : Sp.Env} {n c : Int} (hT : TI x) (hU : TU x) (h147 : x.1 147 = c) (hD : DfOk x E) (hb : x.1 122 ≤ 30)
    (hq : ∀ y, PfK n c x y → y.1 147 = c + 1 → (∀ k, k ≠ 147 → y.1 k = x.1 k) → ClzOk y E c → clz y c = dfl x → L y) : pw_goProof_115 L 0 x := by
  refine pw_goProof_115_i (fun x4 y => 0 ≤ x4 ∧ x4 ≤ x.1 122 ∧ y.1 = x.1 ∧ y.2.2 = x.2.2 ∧ (∀ g, g ≠ 145 → y.2.1 g = x.2.1 g) ∧ (∀ j, j < 30 * c → y.2.1 145 j = x.2.1 145 j) ∧ ∀ i, 0 ≤ i → i < x4 → y.2.1 145 (30 * c + i) = x.2.1 121 i) ?_ ⟨by decide, hD.1, rfl, rfl, fun _ _ => rfl, fun _ _ => rfl, fun i i0 i1 => by omega⟩
  rintro x4 y ⟨i0, i1, e1, e2, er, e5, ec⟩
  unfold pw_goProof_115b
  intro d ed _
  rw [e1] at ed
  refine ⟨fun hle => ?_, fun hlt => ?_⟩
  · intro a ea _ b eb _ _ _ y1 ey1 a2 ea2 _ _ y2 ey2
    rw [e1] at ea eb
    have ea2 : a2 = c := by rw [ea2, ey1]; show y.1 147 = c; rw [e1]; exact h147
    have hx4 : x4 = x.1 122 := by omega
    have n2 : ∀ k, k ≠ 147 → y2.1 k = x.1 k := fun k hk => by
      rw [ey2, ey1]
      show (if k = 147 then _ else y.1 k) = _
      rw [if_neg hk, e1]
    have r2 : ∀ g, g ≠ 145 → g ≠ 146 → y2.2.1 g = x.2.1 g := fun g g5 g6 => by
      rw [ey2, ey1]
      show (if g = 146 then _ else y.2.1 g) = _
      rw [if_neg g6, er g g5]
    have r6 : ∀ j, y2.2.1 146 j = if j = c then x.1 122 else x.2.1 146 j := fun j => by
      rw [ey2, ey1]
      show (if j = a then b else y.2.1 146 j) = _
      rw [ea, eb, h147, er 146 (by decide)]
    have r5 : y2.2.1 145 = y.2.1 145 := by rw [ey2, ey1]; rfl
    have s2 : y2.2.2 = x.2.2 := by rw [ey2, ey1]; exact e2
    have eo : ∀ j, ob y2 j = ob x j := fun j => ob_same (u := x) (v := y2) (r2 0 (by decide) (by decide)) (r2 1 (by decide) (by decide)) (r2 9 (by decide) (by decide)) (r2 10 (by decide) (by decide)) s2 j
    have g2 : GZ f7Pf x y2 := GZ_eq (GZ.rf hT hU) (fun k hk => ⟨n2 k (by omega), r2 k (by omega) (by omega)⟩) s2 (fun k hk => by
      have := f7Pf_ge hk
      exact ⟨n2 k (by omega), r2 k (by omega) (by omega)⟩)
    have c6 : y2.2.1 146 c = x.1 122 := by rw [r6, if_pos rfl]
    refine hq y2 ⟨g2, n2 71 (by decide), fun k _ => ⟨by rw [r2 141 (by decide) (by decide)], by rw [r2 142 (by decide) (by decide)], by rw [r2 143 (by decide) (by decide)]⟩, fun k hk => by rw [r6, if_neg (by omega)], fun k hk => by rw [r5]; exact e5 k hk⟩ (by rw [ey2, ea2]; rfl) n2 ⟨by rw [c6]; exact hD.1, by rw [c6]; exact hb, fun i a0 a1 => ?_⟩ ?_
    · rw [c6] at a1
      rw [r5, ec i a0 (by omega)]
      exact ((hD.2 i a0 a1).mono hT g2).1
    · unfold clz dfl
      rw [c6, r5]
      refine ls_congr (fun i hi => ?_)
      rw [ec (i : Int) (by omega) (by omega), eo, show (0 : Int) + (i : Int) = (i : Int) by omega]
  · intro a ea _ _ _ _ _ b eb _ _ _ y1 ey1 _
    rw [e1] at ea
    have ea : a = c := ea.trans h147
    rw [ea] at ey1
    have eb : b = x.2.1 121 x4 := by rw [eb, er 121 (by decide)]
    refine ⟨by omega, by omega, by rw [ey1]; exact e1, by rw [ey1]; exact e2, fun g hg => ?_, fun j hj => ?_, fun i a0 a1 => ?_⟩
    · rw [ey1]
      show (if g = 145 then _ else y.2.1 g) = _
      rw [if_neg hg, er g hg]
    · rw [ey1]
      show (if j = 30 * c + x4 then b else y.2.1 145 j) = _
      rw [if_neg (by omega), e5 j hj]
    · rw [ey1]
      show (if 30 * c + i = 30 * c + x4 then b else y.2.1 145 (30 * c + i)) = _
      by_cases q : i = x4
      · rw [if_pos (by omega), eb, q]
      · rw [if_neg (by omega), ec i a0 (by omega)]
