-- deps: 467 4307
/-! the reference, partial: matching -/
def f7X (k : Nat) : Bool := decide (105 ≤ k ∧ k ≤ 107) || decide (112 ≤ k ∧ k ≤ 113)
/-- a state whose table is the same; bindings of jobs below k are as they were -/
def MS [DecidableEq Ob] (k : Int) (u v : iST) : Prop := GZ f7X u v ∧ (∀ i, i < 130 * k → v.2.1 105 i = u.2.1 105 i ∧ v.2.1 106 i = u.2.1 106 i) ∧ ∀ j, j < k → v.2.1 107 j = u.2.1 107 j
theorem MS.rf [DecidableEq Ob] {u : iST} (hT : TI u) (hU : TU u) (k : Int) : MS k u u := ⟨GZ.rf hT hU, fun _ _ => ⟨rfl, rfl⟩, fun _ _ => rfl⟩
theorem MS.tr [DecidableEq Ob] {k : Int} {u v w : iST} (h : MS k u v) (g : MS k v w) : MS k u w :=
  ⟨h.1.tr g.1, fun i hi => ⟨(g.2.1 i hi).1.trans (h.2.1 i hi).1, (g.2.1 i hi).2.trans (h.2.1 i hi).2⟩, fun j hj => (g.2.2 j hj).trans (h.2.2 j hj)⟩
theorem MS_A [DecidableEq Ob] {k : Int} {v : iST} (hT : TI v) (hU : TU v) {n : Nat} {i x : Int} (hn : f7X n = true) (h11 : 11 < n) (h1 : n = 105 ∨ n = 106 → 130 * k ≤ i) (h2 : n = 107 → k ≤ i) : MS k v (iA v n i x) := by
  refine ⟨GZ_eq (GZ.rf hT hU) (fun k hk => ⟨rfl, if_neg (by omega)⟩) rfl (Fx_A hn), fun j hj => ⟨?_, ?_⟩, fun j hj => ?_⟩
  · show (if 105 = n then (fun x' => if x' = i then x else v.2.1 n x') else v.2.1 105) j = v.2.1 105 j
    by_cases e : 105 = n
    · subst e; rw [if_pos rfl]; show (if j = i then x else v.2.1 105 j) = _; rw [if_neg (by have := h1 (Or.inl rfl); omega)]
    · rw [if_neg e]
  · show (if 106 = n then (fun x' => if x' = i then x else v.2.1 n x') else v.2.1 106) j = v.2.1 106 j
    by_cases e : 106 = n
    · subst e; rw [if_pos rfl]; show (if j = i then x else v.2.1 106 j) = _; rw [if_neg (by have := h1 (Or.inr rfl); omega)]
    · rw [if_neg e]
  · show (if 107 = n then (fun x' => if x' = i then x else v.2.1 n x') else v.2.1 107) j = v.2.1 107 j
    by_cases e : 107 = n
    · subst e; rw [if_pos rfl]; show (if j = i then x else v.2.1 107 j) = _; rw [if_neg (by have := h2 rfl; omega)]
    · rw [if_neg e]
/-- bindings of a job -/
def BdOk [DecidableEq Ob] (v : iST) (E : Sp.Env) (k only : Int) (p : Ob) : Prop := 0 ≤ v.2.1 107 k ∧ (∀ i, 0 ≤ i → i < v.2.1 107 k → Nd v E (v.2.1 105 (130 * k + i)) ∧ vr false p (ob v (v.2.1 105 (130 * k + i))) ∧ Nd v E (v.2.1 106 (130 * k + i)) ∧ (only ≠ 0 → (ob v (v.2.1 106 (130 * k + i))).isVar = true)) ∧ (∀ i j, 0 ≤ i → i < j → j < v.2.1 107 k → v.2.1 105 (130 * k + i) ≠ v.2.1 105 (130 * k + j)) ∧ (only ≠ 0 → ∀ i j, 0 ≤ i → i < j → j < v.2.1 107 k → v.2.1 106 (130 * k + i) ≠ v.2.1 106 (130 * k + j))
def AgB [DecidableEq Ob] (v : iST) (k : Int) (s : Ob → Ob) : Prop := ∀ i, 0 ≤ i → i < v.2.1 107 k → s (ob v (v.2.1 105 (130 * k + i))) = ob v (v.2.1 106 (130 * k + i))
def Ky [DecidableEq Ob] (v : iST) (k : Int) (x : Ob) : Prop := ∃ i, 0 ≤ i ∧ i < v.2.1 107 k ∧ ob v (v.2.1 105 (130 * k + i)) = x
/-- a way to fill in that is wanted: different variables for the variables -/
def Gd [DecidableEq Ob] (only : Int) (p : Ob) (s : Ob → Ob) : Prop := only ≠ 0 → (∀ x, vr false p x → (s x).isVar = true) ∧ ∀ x y, vr false p x → vr false p y → s x = s y → x = y
theorem p_bound [DecidableEq Ob] {k a b only : Int} {Q : Int → iST → Prop} {u : iST} {E : Sp.Env} {p : Ob} (hT : TI u) (hU : TU u) (hB : BdOk u E k only p) (na : Nd u E a) (va : vr false p (ob u a)) (nb : Nd u E b) (vb : only ≠ 0 → (ob u b).isVar = true)
    (h0 : (∀ s, Gd only p s → AgB u k s → s (ob u a) ≠ ob u b) → Q 0 u)
    (h1 : ∀ v, MS k u v → v.1 = u.1 → v.2.1 112 = u.2.1 112 → v.2.1 113 = u.2.1 113 → BdOk v E k only p → (∀ s, AgB v k s ↔ AgB u k s ∧ s (ob u a) = ob u b) → (∀ x, Ky v k x ↔ Ky u k x ∨ x = ob u a) → Q 1 v) : pw_bound k a b only Q u := by
  obtain ⟨b0, b1, b2, b3⟩ := hB
  unfold pw_bound
  intro _
  refine pw_bound_7_i (fun x1 x2 x3 x4 x5 v => v = u ∧ x1 = k ∧ x2 = a ∧ x3 = b ∧ x4 = only ∧ 130 * k ≤ x5 ∧ ∀ i, 0 ≤ i → 130 * k + i < x5 → i < u.2.1 107 k → u.2.1 105 (130 * k + i) ≠ a ∧ (only ≠ 0 → u.2.1 106 (130 * k + i) ≠ b)) ?_ ⟨rfl, rfl, rfl, rfl, rfl, Int.le_refl _, fun i i0 i1 => by omega⟩
  intro x1 x2 x3 x4 x5 v hI
  obtain ⟨e1, e2, e3, e4, e5, i0, hi⟩ := hI
  rw [e1, e2, e3, e4, e5]
  unfold pw_bound_7b
  intro _ _ _ x ex _ _
  subst ex
  refine ⟨fun hc => ?_, fun hc => ?_⟩
  · have hnew : ∀ i, 0 ≤ i → i < u.2.1 107 k → u.2.1 105 (130 * k + i) ≠ a ∧ (only ≠ 0 → u.2.1 106 (130 * k + i) ≠ b) := fun i j0 j1 => hi i j0 (by omega) j1
    intro _ _ _ y1 ey1 _ _ _ _ w1 ew1 _ _ _ y2 ey2 _ _ _ _ w2 ew2 _ _ y3 ey3 _ _ _ _ w3 ew3 _
    subst ey1
    have m1 : MS k u w1 := by subst ew1; exact MS_A hT hU (by decide) (by decide) (fun _ => by omega) (fun z => by cases z)
    have q2 : y2 = u.2.1 107 k := by rw [ey2, ew1]; rfl
    rw [q2] at ew2
    have m2 : MS k w1 w2 := by subst ew2; exact MS_A m1.1.1 m1.1.2.1 (by decide) (by decide) (fun _ => by omega) (fun z => by cases z)
    have q3 : y3 = u.2.1 107 k := by rw [ey3, ew2, ew1]; rfl
    rw [q3] at ew3
    have m3 : MS k w2 w3 := by subst ew3; exact MS_A m2.1.1 m2.1.2.1 (by decide) (by decide) (fun z => by omega) (fun _ => Int.le_refl _)
    have g105 : ∀ i, w3.2.1 105 i = if i = 130 * k + u.2.1 107 k then a else u.2.1 105 i := by intro i; rw [ew3, ew2, ew1]; rfl
    have g106 : ∀ i, w3.2.1 106 i = if i = 130 * k + u.2.1 107 k then b else u.2.1 106 i := by intro i; rw [ew3, ew2, ew1]; rfl
    have g107 : w3.2.1 107 k = u.2.1 107 k + 1 := by rw [ew3]; exact if_pos rfl
    have g112 : w3.2.1 112 = u.2.1 112 := by rw [ew3, ew2, ew1]; rfl
    have g113 : w3.2.1 113 = u.2.1 113 := by rw [ew3, ew2, ew1]; rfl
    have g1 : w3.1 = u.1 := by rw [ew3, ew2, ew1]; rfl
    have eo : ∀ j, ob w3 j = ob u j := by rw [ew3, ew2, ew1]; exact ob_same rfl rfl rfl rfl rfl
    clear ew3 ew2 ew1 ey2 ey3
    have m := (m1.tr m2).tr m3
    have nd : ∀ j, Nd u E j → Nd w3 E j := fun j hj => (hj.mono hT m.1).1
    have key : ∀ i, 0 ≤ i → i < u.2.1 107 k → w3.2.1 105 (130 * k + i) = u.2.1 105 (130 * k + i) ∧ w3.2.1 106 (130 * k + i) = u.2.1 106 (130 * k + i) := by
      intro i j0 j1
      rw [g105, g106, if_neg (by omega), if_neg (by omega)]
      exact ⟨rfl, rfl⟩
    have last : w3.2.1 105 (130 * k + u.2.1 107 k) = a ∧ w3.2.1 106 (130 * k + u.2.1 107 k) = b := by
      rw [g105, g106, if_pos rfl, if_pos rfl]; exact ⟨rfl, rfl⟩
    refine h1 w3 m g1 g112 g113 ⟨by omega, fun i j0 j1 => ?_, fun i j j0 j1 j2 => ?_, fun ho i j j0 j1 j2 => ?_⟩ (fun s => ⟨fun hs => ⟨fun i j0 j1 => ?_, ?_⟩, fun hs i j0 j1 => ?_⟩) (fun x => ⟨fun hx => ?_, fun hx => ?_⟩)
    · rw [g107] at j1
      by_cases c : i = u.2.1 107 k
      · rw [c, last.1, last.2, eo, eo]
        exact ⟨nd a na, va, nd b nb, vb⟩
      · obtain ⟨k1, k2⟩ := key i j0 (by omega)
        obtain ⟨p1, p2, p3, p4⟩ := b1 i j0 (by omega)
        rw [k1, k2, eo, eo]
        exact ⟨nd _ p1, p2, nd _ p3, p4⟩
    · rw [g107] at j2
      by_cases c : j = u.2.1 107 k
      · rw [c, last.1, (key i j0 (by omega)).1]
        exact (hnew i j0 (by omega)).1
      · rw [(key i j0 (by omega)).1, (key j (by omega) (by omega)).1]
        exact b2 i j j0 j1 (by omega)
    · rw [g107] at j2
      by_cases c : j = u.2.1 107 k
      · rw [c, last.2, (key i j0 (by omega)).2]
        exact (hnew i j0 (by omega)).2 ho
      · rw [(key i j0 (by omega)).2, (key j (by omega) (by omega)).2]
        exact b3 ho i j j0 j1 (by omega)
    · have := hs i j0 (by omega)
      rw [(key i j0 j1).1, (key i j0 j1).2, eo, eo] at this
      exact this
    · have := hs (u.2.1 107 k) b0 (by omega)
      rw [last.1, last.2, eo, eo] at this
      exact this
    · rw [g107] at j1
      by_cases c : i = u.2.1 107 k
      · rw [c, last.1, last.2, eo, eo]; exact hs.2
      · rw [(key i j0 (by omega)).1, (key i j0 (by omega)).2, eo, eo]
        exact hs.1 i j0 (by omega)
    · obtain ⟨i, j0, j1, j2⟩ := hx
      rw [g107] at j1
      by_cases c : i = u.2.1 107 k
      · rw [c, last.1, eo] at j2; exact Or.inr j2.symm
      · rw [(key i j0 (by omega)).1, eo] at j2; exact Or.inl ⟨i, j0, by omega, j2⟩
    · rcases hx with ⟨i, j0, j1, j2⟩ | hx
      · exact ⟨i, j0, by omega, by rw [(key i j0 j1).1, eo]; exact j2⟩
      · exact ⟨u.2.1 107 k, b0, by omega, by rw [last.1, eo]; exact hx.symm⟩
  · obtain ⟨n, hn⟩ : ∃ n, x5 = 130 * k + n := ⟨x5 - 130 * k, by omega⟩
    subst hn
    obtain ⟨p1, p2, p3, p4⟩ := b1 n (by omega) (by omega)
    have in1 := hT.inj hU p1.1 p1.2.1 na.1 na.2.1
    have in2 := hT.inj hU p3.1 p3.2.1 nb.1 nb.2.1
    intro _ _ y ey _
    subst ey
    have goon : u.2.1 105 (130 * k + n) ≠ a → (only ≠ 0 → u.2.1 106 (130 * k + n) ≠ b) → u = u ∧ k = k ∧ a = a ∧ b = b ∧ only = only ∧ 130 * k ≤ 130 * k + n + 1 ∧ ∀ i, 0 ≤ i → 130 * k + i < 130 * k + n + 1 → i < u.2.1 107 k → u.2.1 105 (130 * k + i) ≠ a ∧ (only ≠ 0 → u.2.1 106 (130 * k + i) ≠ b) := by
      intro z1 z2
      refine ⟨rfl, rfl, rfl, rfl, rfl, by omega, fun i j0 j1 j2 => ?_⟩
      by_cases c : i = n
      · rw [c]; exact ⟨z1, z2⟩
      · exact hi i j0 (by omega) j2
    refine ⟨fun hd => ⟨fun he _ => goon hd (fun z => absurd he z), fun he => ?_⟩, fun hd => ?_⟩
    · intro _ _ z ez _
      subst ez
      refine ⟨fun hf _ => goon hd (fun _ => hf), fun hf _ => h0 (fun s hg hs e => ?_)⟩
      have := hs n (by omega) (by omega)
      rw [Decidable.not_not.mp hf] at this
      exact hd (in1.mp ((hg he).2 _ _ p2 va (this.trans e.symm)))
    · intro _ _ z ez _
      subst ez
      have ea : u.2.1 105 (130 * k + n) = a := Decidable.not_not.mp hd
      refine ⟨fun hf _ => h0 (fun s hg hs e => ?_), fun hf _ => ?_⟩
      · have := hs n (by omega) (by omega)
        rw [ea, e] at this
        exact hf (in2.mp this.symm)
      · have eb : u.2.1 106 (130 * k + n) = b := Decidable.not_not.mp hf
        refine h1 u (MS.rf hT hU k) rfl rfl rfl ⟨b0, b1, b2, b3⟩ (fun s => ⟨fun hs => ⟨hs, ?_⟩, fun hs => hs.1⟩) (fun x => ⟨fun hx => Or.inl hx, fun hx => hx.elim id (fun hx => ⟨n, by omega, by omega, by rw [ea]; exact hx.symm⟩)⟩)
        have := hs n (by omega) (by omega)
        rw [ea, eb] at this
        exact this
