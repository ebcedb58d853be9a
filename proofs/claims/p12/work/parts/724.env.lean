-- deps: 723
/-! the class: theorems, what rewriting needs; contexts -/
def f8Jn (k : Nat) : Bool := decide (4 ≤ k ∧ k ≤ 9) || decide (23 ≤ k ∧ k ≤ 24) || decide (k = 26) || decide (k = 29) || decide (31 ≤ k ∧ k ≤ 32) || decide (k = 39)
def f8Jr (k : Nat) : Bool := decide (16 ≤ k ∧ k ≤ 22) || decide (27 ≤ k ∧ k ≤ 30) || decide (35 ≤ k ∧ k ≤ 43) || decide (51 ≤ k ∧ k ≤ 52) || decide (54 ≤ k ∧ k ≤ 56)
theorem f8Jn_of [DecidableEq Ob] {k : Nat} (h : f8Jn k = false) : ¬ (4 ≤ k ∧ k ≤ 9) ∧ ¬ (23 ≤ k ∧ k ≤ 24) ∧ k ≠ 26 ∧ k ≠ 29 ∧ ¬ (31 ≤ k ∧ k ≤ 32) ∧ k ≠ 39 := by
  unfold f8Jn at h
  simp only [Bool.or_eq_false_iff, decide_eq_false_iff_not] at h
  exact ⟨h.1.1.1.1.1, h.1.1.1.1.2, h.1.1.1.2, h.1.1.2, h.1.2, h.2⟩
theorem f8Jr_of [DecidableEq Ob] {k : Nat} (h : f8Jr k = false) : ¬ (16 ≤ k ∧ k ≤ 22) ∧ ¬ (27 ≤ k ∧ k ≤ 30) ∧ ¬ (35 ≤ k ∧ k ≤ 43) ∧ ¬ (51 ≤ k ∧ k ≤ 52) ∧ ¬ (54 ≤ k ∧ k ≤ 56) := by
  unfold f8Jr at h
  simp only [Bool.or_eq_false_iff, decide_eq_false_iff_not] at h
  exact ⟨h.1.1.1.1, h.1.1.1.2, h.1.1.2, h.1.2, h.2⟩
theorem f8B_J [DecidableEq Ob] : ∀ k, f8Jn k = false → f8B k = false := fun k h => by
  have := f8Jn_of h
  unfold f8B
  simp only [Bool.or_eq_false_iff, decide_eq_false_iff_not]
  omega
theorem f8W_J [DecidableEq Ob] : ∀ k, f8Jr k = false → f8W k = false := fun k h => by
  have := f8Jr_of h
  unfold f8W
  simp only [Bool.or_eq_false_iff, decide_eq_false_iff_not]
  omega
theorem f8M_J [DecidableEq Ob] : ∀ k, f8Jn k = false → f8M k = false := fun k h => by
  have := f8Jn_of h
  unfold f8M
  simp only [decide_eq_false_iff_not]
  omega
theorem f8R_J [DecidableEq Ob] : ∀ k, f8Jr k = false → f8R k = false := fun k h => by
  have := f8Jr_of h
  unfold f8R
  simp only [decide_eq_false_iff_not]
  omega
theorem f8S_J [DecidableEq Ob] : ∀ k, f8Jn k = false → f8S k = false := fun k h => by
  have := f8Jn_of h
  unfold f8S
  simp only [decide_eq_false_iff_not]
  omega
theorem f8T_J [DecidableEq Ob] : ∀ k, f8Jn k = false → f8T k = false := fun k h => by
  have := f8Jn_of h
  unfold f8T
  simp only [decide_eq_false_iff_not]
  omega
theorem f8b_J [DecidableEq Ob] : ∀ k, f8Jn k = false → f8b k = false := fun k h => by
  have := f8Jn_of h
  unfold f8b
  simp only [decide_eq_false_iff_not]
  omega
theorem f8m_J [DecidableEq Ob] : ∀ k, f8Jr k = false → f8m k = false := fun k h => by
  have := f8Jr_of h
  unfold f8m
  simp only [Bool.or_eq_false_iff, decide_eq_false_iff_not]
  omega
theorem f8En_J [DecidableEq Ob] : ∀ k, f8Jn k = false → f8En k = false := fun k h => by
  have := f8Jn_of h
  unfold f8En
  simp only [Bool.or_eq_false_iff, decide_eq_false_iff_not]
  omega
theorem f8Er_J [DecidableEq Ob] : ∀ k, f8Jr k = false → f8Er k = false := fun k h => by
  have := f8Jr_of h
  unfold f8Er
  simp only [Bool.or_eq_false_iff, decide_eq_false_iff_not]
  omega
/-! terms of a call -/
theorem szM_low [DecidableEq Ob] : ∀ (m : Bool) (o : Ob), 0 ≤ Ob.szM m o
  | true, .op a b => by
    have h1 := szM_low false a
    have h2 := szM_low true b
    show 0 ≤ Ob.szM false a + Ob.szM true b
    omega
  | true, .var _ => Int.le_refl _
  | false, .op a b => by
    have h2 := szM_low true b
    show 0 ≤ (if a = Ob.quote then (1 : Int) else 1 + Ob.szM true b)
    split <;> omega
  | false, .var _ => by show (0 : Int) ≤ 1; decide
theorem szM_in [DecidableEq Ob] : ∀ {l : List Ob} {x : Ob}, x ∈ l → x.sz ≤ Ob.szM true (Ob.ofList l)
  | a :: l, x, h => by
    have e : Ob.szM true (Ob.ofList (a :: l)) = Ob.szM false a + Ob.szM true (Ob.ofList l) := rfl
    have h1 := szM_low false a
    have h2 := szM_low true (Ob.ofList l)
    rcases List.mem_cons.mp h with q | q
    · rw [e, q]; show Ob.szM false a ≤ _; omega
    · have := szM_in q
      omega
theorem NdC.it [DecidableEq Ob] {u : iST} {E : Sp.Env} {k t : Int} {f : Ob} {n : Int} (j : Nat) (h : NdC u E k) (hc : (oc u k).isCallOf f = true) (hf : f ≠ Ob.quote) (ha : Sp.arOf E f = n) (hj : ((j + 1 : Nat) : Int) ≤ n) (ht : VN u t) (et : oc u t = (oc u k).item (j + 1)) : NdC u E t := by
  obtain ⟨b, eb⟩ := Ob.isCallOf_iff.mp hc
  obtain ⟨g, l, e, h1, h2, h3, h4⟩ := Ob.wt_call h.2.1 (by rw [eb]; exact decide_eq_true hf)
  have eg : g = f := by rw [eb] at e; exact (Ob.pr.inj e).1.symm
  rw [eg, ha] at h3
  have hl : j < l.length := by omega
  have em : (oc u k).item (j + 1) = l[j] := by rw [e, Ob.item_call, List.getD_eq_getElem?_getD, List.getElem?_eq_getElem hl]; rfl
  have hm : l[j] ∈ l := List.getElem_mem hl
  refine ⟨ht, by rw [et, em]; exact h4 _ hm, ?_⟩
  rw [et, em]
  have hs := h.2.2
  rw [e] at hs
  have es : Ob.sz (.pr g (Ob.ofList l)) = 1 + Ob.szM true (Ob.ofList l) := if_neg h1
  rw [es] at hs
  have := szM_in hm
  omega
theorem pc_it [DecidableEq Ob] {k i : Int} {Q : Int → iST → Prop} {u : iST} {E : Sp.Env} {f : Ob} {n : Int} (hT : CT u) (h : NdC u E k) (hc : (oc u k).isCallOf f = true) (hf : f ≠ Ob.quote) (ha : Sp.arOf E f = n) (i1 : 1 ≤ i) (i2 : i ≤ n) (hq : ∀ t, NdC u E t → oc u t = (oc u k).item i.toNat → Q t u) : pv_7_item k i Q u := by
  refine pc_item hT h.1 (by omega) (fun t ht et => hq t ?_ et)
  obtain ⟨j, hj⟩ : ∃ j : Nat, i.toNat = j + 1 := ⟨i.toNat - 1, by omega⟩
  rw [hj] at et
  exact h.it j hc hf ha (by omega) ht et
/-! theorems as the class has them -/
def hypC [DecidableEq Ob] (u : iST) (r : Int) : List Ob := (List.range (u.2.1 9 r).toNat).map (fun i : Nat => oc u (u.2.1 50 (60 * r + (i : Int))))
def rulC [DecidableEq Ob] (u : iST) (r : Int) : Option Sp.Rul := if u.2.1 7 r = -1 then none else some (oc u (u.2.1 7 r), oc u (u.2.1 8 r), hypC u r, decide (u.2.1 10 r ≠ 0), decide (u.2.1 11 r ≠ 0), decide (u.2.1 12 r ≠ 0))
def Th1c [DecidableEq Ob] (u : iST) (E : Sp.Env) (r : Int) : Prop := VN u (u.2.1 5 r) ∧ VN u (u.2.1 6 r) ∧ (u.2.1 7 r ≠ -1 → NdC u E (u.2.1 7 r) ∧ (oc u (u.2.1 7 r)).isCall = true ∧ NdC u E (u.2.1 8 r) ∧ (0 ≤ u.2.1 9 r ∧ u.2.1 9 r ≤ 60) ∧ (∀ x, vr false (oc u (u.2.1 8 r)) x → vr false (oc u (u.2.1 7 r)) x) ∧ ∀ i, 0 ≤ i → i < u.2.1 9 r → NdC u E (u.2.1 50 (60 * r + i)) ∧ ∀ x, vr false (oc u (u.2.1 50 (60 * r + i))) x → vr false (oc u (u.2.1 7 r)) x)
def thC [DecidableEq Ob] (u : iST) (r : Int) (k : Sp.Thm) : Prop := k.name = oc u (u.2.1 5 r) ∧ k.form = oc u (u.2.1 6 r) ∧ k.rule = rulC u r
def TOc [DecidableEq Ob] (u : iST) (E : Sp.Env) : Prop := (E.thms.length : Int) = u.1 1 ∧ (∀ r : Nat, (r : Int) < u.1 1 → Th1c u E (r : Int) ∧ (∃ k, E.thms[r]? = some k ∧ thC u (r : Int) k) ∧ (u.2.1 13 (r : Int) ≠ 0 ↔ Ob.has E.muted (oc u (u.2.1 5 (r : Int))) = true))
theorem Th1c.mono [DecidableEq Ob] {n r : Nat → Bool} {u v : iST} {E : Sp.Env} {j : Int} (h : Th1c u E j) (hT : CT u) (g : CG n r u v) (hr : ∀ k, 5 ≤ k → k ≤ 13 → v.2.1 k = u.2.1 k) (h50 : v.2.1 50 = u.2.1 50) : Th1c v E j ∧ rulC v j = rulC u j ∧ oc v (v.2.1 5 j) = oc u (u.2.1 5 j) ∧ oc v (v.2.1 6 j) = oc u (u.2.1 6 j) := by
  obtain ⟨v5, v6, c⟩ := h
  have e5 := hr 5 (by decide) (by decide)
  have e6 := hr 6 (by decide) (by decide)
  have e7 := hr 7 (by decide) (by decide)
  have e8 := hr 8 (by decide) (by decide)
  have e9 := hr 9 (by decide) (by decide)
  have e10 := hr 10 (by decide) (by decide)
  have e11 := hr 11 (by decide) (by decide)
  have e12 := hr 12 (by decide) (by decide)
  refine ⟨⟨by rw [e5]; exact v5.up g, by rw [e6]; exact v6.up g, fun z => ?_⟩, ?_, by rw [e5]; exact g.oc hT v5.1 v5.2, by rw [e6]; exact g.oc hT v6.1 v6.2⟩
  · rw [e7] at z
    obtain ⟨c1, c2, c3, c4, c5, c6⟩ := c z
    rw [e7, e8, e9, h50, (c1.up hT g).2, (c3.up hT g).2]
    refine ⟨(c1.up hT g).1, c2, (c3.up hT g).1, c4, c5, fun i i0 i1 => ?_⟩
    obtain ⟨d1, d2⟩ := c6 i i0 i1
    rw [(d1.up hT g).2]
    exact ⟨(d1.up hT g).1, d2⟩
  · unfold rulC
    rw [e7, e8, e10, e11, e12]
    by_cases z : u.2.1 7 j = -1
    · rw [if_pos z, if_pos z]
    · obtain ⟨c1, c2, c3, c4, c5, c6⟩ := c z
      have eh : hypC v j = hypC u j := by
        unfold hypC
        rw [e9, h50]
        refine List.map_congr_left (fun i hi => ?_)
        have hi := List.mem_range.mp hi
        exact ((c6 i (by omega) (by omega)).1.up hT g).2
      rw [if_neg z, if_neg z, (c1.up hT g).2, (c3.up hT g).2, eh]
theorem TOc.mono [DecidableEq Ob] {n r : Nat → Bool} {u v : iST} {E : Sp.Env} (h : TOc u E) (hT : CT u) (g : CG n r u v) (h1 : v.1 1 = u.1 1) (hr : ∀ k, 5 ≤ k → k ≤ 13 → v.2.1 k = u.2.1 k) (h50 : v.2.1 50 = u.2.1 50) : TOc v E := by
  refine ⟨by rw [h1]; exact h.1, fun j hj => ?_⟩
  rw [h1] at hj
  obtain ⟨a, ⟨k, ek, t1, t2, t3⟩, b⟩ := h.2 j hj
  obtain ⟨m1, m2, m3, m4⟩ := a.mono hT g hr h50
  exact ⟨m1, ⟨k, ek, by rw [m3]; exact t1, by rw [m4]; exact t2, by rw [m2]; exact t3⟩, by rw [hr 13 (by decide) (by decide), m3]; exact b⟩
/-- all that rewriting needs of a house -/
def EnvC [DecidableEq Ob] (u : iST) (E : Sp.Env) : Prop := DOc u E ∧ Sp.DWf E ∧ (∀ D, D ∈ E.defs → D.body.sz ≤ 120) ∧ TOc u E ∧ u.1 25 = u.1 1 ∧ u.1 27 = 0
theorem EnvC.mono [DecidableEq Ob] {u v : iST} {E : Sp.Env} (h : EnvC u E) (hT : CT u) (g : CG f8Jn f8Jr u v) : EnvC v E := by
  obtain ⟨h1, h2, h3, h4, h5, h6⟩ := h
  have n : ∀ k, (k ≤ 3 ∨ k = 25 ∨ k = 27) → v.1 k = u.1 k := fun k hk => g.2.2.1 k (by unfold f8Jn; simp only [Bool.or_eq_false_iff, decide_eq_false_iff_not]; omega)
  have r : ∀ k, (k ≤ 15 ∨ k = 50) → v.2.1 k = u.2.1 k := fun k hk => g.2.2.2 k (by unfold f8Jr; simp only [Bool.or_eq_false_iff, decide_eq_false_iff_not]; omega)
  exact ⟨h1.mono hT g (n 0 (by omega)) (fun k hk => r k (by omega)), h2, h3, h4.mono hT g (n 1 (by omega)) (fun k h1 h2 => r k (by omega)) (r 50 (by omega)), by rw [n 25 (by omega), n 1 (by omega)]; exact h5, by rw [n 27 (by omega)]; exact h6⟩
theorem arOf6 [DecidableEq Ob] {u : iST} {E : Sp.Env} (hD : DOc u E) (f : Ob) : Sp.arOf E f ≤ 6 := by
  unfold Sp.arOf
  split
  · decide
  split
  · decide
  split
  · decide
  cases e : E.dfn f with
  | none => show (-1 : Int) ≤ 6; decide
  | some D =>
    obtain ⟨hm, _⟩ := dfn_mem e
    rw [hD.1] at hm
    unfold dfsC at hm
    obtain ⟨i, hi, ei⟩ := List.mem_map.mp hm
    have hi := List.mem_range.mp hi
    obtain ⟨_, _, ⟨_, l1, l2, l3⟩, _⟩ := hD.2.2 (i : Int) (by omega) (by omega)
    show (D.params.length : Int) ≤ 6
    rw [← ei]
    show ((Ob.toList (oc u (u.2.1 1 (i : Int)))).length : Int) ≤ 6
    rw [toList_len' (by omega)]
    omega
/-! contexts -/
def CxC [DecidableEq Ob] (u : iST) (E : Sp.Env) (k : Int) (ctx : List Ob) : Prop := VN u k ∧ oc u k = Ob.ofList ctx.reverse ∧ ∀ a, a ∈ ctx → Ob.wt (Sp.arOf E) a ∧ a.sz ≤ 120
theorem CxC.up [DecidableEq Ob] {n r : Nat → Bool} {u v : iST} {E : Sp.Env} {k : Int} {ctx : List Ob} (h : CxC u E k ctx) (hT : CT u) (g : CG n r u v) : CxC v E k ctx := ⟨h.1.up g, by rw [g.oc hT h.1.1 h.1.2]; exact h.2.1, h.2.2⟩
