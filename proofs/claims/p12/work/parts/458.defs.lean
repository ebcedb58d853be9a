-- deps: 457 4304
/-! the reference: its definitions -/
def prm [DecidableEq Ob] (u : iST) (d : Int) : List Ob := (List.range (u.2.1 37 d).toNat).map (fun i : Nat => ob u (u.2.1 38 (6 * d + (i : Int))))
def dfn1 [DecidableEq Ob] (u : iST) (d : Int) : Sp.Dfn := (ob u (u.2.1 36 d), prm u d, ob u (u.2.1 39 d), if u.2.1 41 d ≠ 0 then some (ob u (u.2.1 40 d)) else none)
def dfs [DecidableEq Ob] (u : iST) : List Sp.Dfn := (List.range (u.1 35).toNat).map (fun i : Nat => dfn1 u (i : Int))
/-- a definition as it stands -/
def D1 [DecidableEq Ob] (u : iST) (d : Int) : Prop := (0 ≤ u.2.1 36 d ∧ u.2.1 36 d < u.1 8 ∧ (ob u (u.2.1 36 d)).isName = true) ∧ (0 ≤ u.2.1 37 d ∧ u.2.1 37 d ≤ 6 ∧ ∀ i, 0 ≤ i → i < u.2.1 37 d → 0 ≤ u.2.1 38 (6 * d + i) ∧ u.2.1 38 (6 * d + i) < u.1 8) ∧ (0 ≤ u.2.1 39 d ∧ u.2.1 39 d < u.1 8 ∧ Tm u (ob u (u.2.1 39 d))) ∧ (u.2.1 41 d ≠ 0 → 0 ≤ u.2.1 40 d ∧ u.2.1 40 d < u.1 8 ∧ Tm u (ob u (u.2.1 40 d)))
def DOk [DecidableEq Ob] (u : iST) (E : Sp.Env) : Prop := E.defs = dfs u ∧ 0 ≤ u.1 35 ∧ ∀ d, 0 ≤ d → d < u.1 35 → D1 u d
/-- fields of the definitions are as they were -/
def DSm [DecidableEq Ob] (u v : iST) : Prop := v.1 35 = u.1 35 ∧ v.2.1 36 = u.2.1 36 ∧ v.2.1 37 = u.2.1 37 ∧ v.2.1 38 = u.2.1 38 ∧ v.2.1 39 = u.2.1 39 ∧ v.2.1 40 = u.2.1 40 ∧ v.2.1 41 = u.2.1 41
theorem DSm.of [DecidableEq Ob] {n : Nat → Bool} {u v : iST} (h : Fx n u v) (h35 : n 35 = false) (h36 : n 36 = false) (h37 : n 37 = false) (h38 : n 38 = false) (h39 : n 39 = false) (h40 : n 40 = false) (h41 : n 41 = false) : DSm u v :=
  ⟨(h 35 h35).1, (h 36 h36).2, (h 37 h37).2, (h 38 h38).2, (h 39 h39).2, (h 40 h40).2, (h 41 h41).2⟩
theorem D1.mono [DecidableEq Ob] {n : Nat → Bool} {u v : iST} (hT : TI u) (hG : GZ n u v) (hS : DSm u v) {d : Int} (h : D1 u d) : D1 v d ∧ dfn1 v d = dfn1 u d := by
  obtain ⟨s1, s2, s3, s4, s5, s6, s7⟩ := hS
  obtain ⟨⟨a1, a2, a3⟩, ⟨b1, b2, b3⟩, ⟨c1, c2, c3⟩, e⟩ := h
  have hl := hG.le
  have ep : prm v d = prm u d := by
    unfold prm
    rw [s3, s4]
    refine List.map_congr_left (fun i hi => ?_)
    have hi := List.mem_range.mp hi
    obtain ⟨p, q⟩ := b3 i (by omega) (by omega)
    exact hG.ob hT p q
  constructor
  · unfold D1
    rw [s2, s3, s4, s5, s6, s7]
    refine ⟨⟨a1, by omega, by rw [hG.ob hT a1 a2]; exact a3⟩, ⟨b1, b2, fun i i0 i1 => ⟨(b3 i i0 i1).1, by have := (b3 i i0 i1).2; omega⟩⟩, ⟨c1, by omega, by rw [hG.ob hT c1 c2]; exact c3.mono hG hT⟩, fun z => ?_⟩
    obtain ⟨p, q, r⟩ := e z
    exact ⟨p, by omega, by rw [hG.ob hT p q]; exact r.mono hG hT⟩
  · unfold dfn1
    rw [ep, s2, s5, s6, s7, hG.ob hT a1 a2, hG.ob hT c1 c2]
    by_cases z : u.2.1 41 d ≠ 0
    · obtain ⟨p, q, r⟩ := e z
      rw [if_pos z, if_pos z, hG.ob hT p q]
    · rw [if_neg z, if_neg z]
theorem DOk.mono [DecidableEq Ob] {n : Nat → Bool} {u v : iST} {E : Sp.Env} (h : DOk u E) (hT : TI u) (hG : GZ n u v) (hS : DSm u v) : DOk v E := by
  refine ⟨?_, by rw [hS.1]; exact h.2.1, fun d d0 d1 => ((h.2.2 d d0 (by rw [← hS.1]; exact d1)).mono hT hG hS).1⟩
  rw [h.1]
  unfold dfs
  rw [hS.1]
  refine List.map_congr_left (fun i hi => ?_)
  have hi := List.mem_range.mp hi
  exact ((h.2.2 i (by omega) (by omega)).mono hT hG hS).2.symm
theorem base_nd [DecidableEq Ob] {u : iST} (hT : TI u) (hU : TU u) {f : Int} (h3 : 3 ≤ f) (h16 : f ≤ 16) : (ob u f).isBase = true := by
  have c : f = 3 ∨ f = 4 ∨ f = 5 ∨ f = 6 ∨ f = 7 ∨ f = 8 ∨ f = 9 ∨ f = 10 ∨ f = 11 ∨ f = 12 ∨ f = 13 ∨ f = 14 ∨ f = 15 ∨ f = 16 := by omega
  rcases c with rfl | rfl | rfl | rfl | rfl | rfl | rfl | rfl | rfl | rfl | rfl | rfl | rfl | rfl
  · rw [(kn hT hU 3 (by decide) (by decide) rfl).2.2]; exact isBase_ifS
  · rw [(kn hT hU 4 (by decide) (by decide) rfl).2.2]; exact isBase_equal
  · rw [(kn hT hU 5 (by decide) (by decide) rfl).2.2]; exact isBase_cons
  · rw [(kn hT hU 6 (by decide) (by decide) rfl).2.2]; exact isBase_implies
  · rw [(kn hT hU 7 (by decide) (by decide) rfl).2.2]; exact isBase_plus
  · rw [(kn hT hU 8 (by decide) (by decide) rfl).2.2]; exact isBase_minus
  · rw [(kn hT hU 9 (by decide) (by decide) rfl).2.2]; exact isBase_less
  · rw [(kn hT hU 10 (by decide) (by decide) rfl).2.2]; exact isBase_consp
  · rw [(kn hT hU 11 (by decide) (by decide) rfl).2.2]; exact isBase_car
  · rw [(kn hT hU 12 (by decide) (by decide) rfl).2.2]; exact isBase_cdr
  · rw [(kn hT hU 13 (by decide) (by decide) rfl).2.2]; exact isBase_natp
  · rw [(kn hT hU 14 (by decide) (by decide) rfl).2.2]; exact isBase_symbolp
  · rw [(kn hT hU 15 (by decide) (by decide) rfl).2.2]; exact isBase_not
  · rw [(kn hT hU 16 (by decide) (by decide) rfl).2.2]; exact isBase_height
theorem base_ar [DecidableEq Ob] {u : iST} (hT : TI u) (hU : TU u) (E : Sp.Env) {f : Int} (h3 : 3 ≤ f) (h16 : f ≤ 16) : Sp.arOf E (ob u f) = if f = 3 then 3 else if f ≤ 9 then 2 else 1 := by
  have c : f = 3 ∨ f = 4 ∨ f = 5 ∨ f = 6 ∨ f = 7 ∨ f = 8 ∨ f = 9 ∨ f = 10 ∨ f = 11 ∨ f = 12 ∨ f = 13 ∨ f = 14 ∨ f = 15 ∨ f = 16 := by omega
  rcases c with rfl | rfl | rfl | rfl | rfl | rfl | rfl | rfl | rfl | rfl | rfl | rfl | rfl | rfl
  · rw [(kn hT hU 3 (by decide) (by decide) rfl).2.2]; exact arOf_ifS E
  · rw [(kn hT hU 4 (by decide) (by decide) rfl).2.2]; exact arOf_equal E
  · rw [(kn hT hU 5 (by decide) (by decide) rfl).2.2]; exact arOf_cons E
  · rw [(kn hT hU 6 (by decide) (by decide) rfl).2.2]; exact arOf_implies E
  · rw [(kn hT hU 7 (by decide) (by decide) rfl).2.2]; exact arOf_plus E
  · rw [(kn hT hU 8 (by decide) (by decide) rfl).2.2]; exact arOf_minus E
  · rw [(kn hT hU 9 (by decide) (by decide) rfl).2.2]; exact arOf_less E
  · rw [(kn hT hU 10 (by decide) (by decide) rfl).2.2]; exact arOf_consp E
  · rw [(kn hT hU 11 (by decide) (by decide) rfl).2.2]; exact arOf_car E
  · rw [(kn hT hU 12 (by decide) (by decide) rfl).2.2]; exact arOf_cdr E
  · rw [(kn hT hU 13 (by decide) (by decide) rfl).2.2]; exact arOf_natp E
  · rw [(kn hT hU 14 (by decide) (by decide) rfl).2.2]; exact arOf_symbolp E
  · rw [(kn hT hU 15 (by decide) (by decide) rfl).2.2]; exact arOf_not E
  · rw [(kn hT hU 16 (by decide) (by decide) rfl).2.2]; exact arOf_height E
/-- a base function is one of the known symbols -/
theorem base_is [DecidableEq Ob] {u : iST} (hT : TI u) (hU : TU u) {f : Int} (f0 : 0 ≤ f) (f1 : f < u.1 8) (h : (ob u f).isBase = true) : 3 ≤ f ∧ f ≤ 16 := by
  unfold Ob.isBase at h
  simp only [Bool.or_eq_true, decide_eq_true_eq] at h
  have k := fun (c : Int) (o : Ob) (h0 : 0 ≤ c) (h4 : c < 44) (ho : Ob.known[c.toNat]? = some o) (e : ob u f = o) => (kat hT hU c h0 h4 ho f0 f1).mpr e
  rcases h with ((((((((((((h | h) | h) | h) | h) | h) | h) | h) | h) | h) | h) | h) | h) | h
  · have := k 3 _ (by decide) (by decide) rfl h; omega
  · have := k 4 _ (by decide) (by decide) rfl h; omega
  · have := k 5 _ (by decide) (by decide) rfl h; omega
  · have := k 6 _ (by decide) (by decide) rfl h; omega
  · have := k 7 _ (by decide) (by decide) rfl h; omega
  · have := k 8 _ (by decide) (by decide) rfl h; omega
  · have := k 9 _ (by decide) (by decide) rfl h; omega
  · have := k 10 _ (by decide) (by decide) rfl h; omega
  · have := k 11 _ (by decide) (by decide) rfl h; omega
  · have := k 12 _ (by decide) (by decide) rfl h; omega
  · have := k 13 _ (by decide) (by decide) rfl h; omega
  · have := k 14 _ (by decide) (by decide) rfl h; omega
  · have := k 15 _ (by decide) (by decide) rfl h; omega
  · have := k 16 _ (by decide) (by decide) rfl h; omega
/-- which function a symbol is -/
theorem FnOf_dfn [DecidableEq Ob] {u : iST} {E : Sp.Env} (hT : TI u) (hU : TU u) (hD : DOk u E) (h57 : u.1 57 = -1) {f r : Int} (f0 : 0 ≤ f) (f1 : f < u.1 8) (h : FnOf u f r) :
    (r = -1 ∧ E.dfn (ob u f) = none ∧ (ob u f).isBase = false) ∨ (3 ≤ r ∧ r ≤ 16 ∧ r = f ∧ E.dfn (ob u f) = none) ∨ (∃ d, 0 ≤ d ∧ d < u.1 35 ∧ r = 100 + d ∧ u.2.1 36 d = f ∧ E.dfn (ob u f) = some (dfn1 u d) ∧ (ob u f).isBase = false) := by
  have hnm : ∀ d, 0 ≤ d → d < u.1 35 → (decide ((dfn1 u d).name = ob u f) = true ↔ u.2.1 36 d = f) := by
    intro d d0 d1
    obtain ⟨⟨a1, a2, a3⟩, _⟩ := hD.2.2 d d0 d1
    rw [decide_eq_true_eq]
    exact hT.inj hU a1 a2 f0 f1
  have key : E.dfn (ob u f) = (dfs u).find? (fun d => decide (d.name = ob u f)) := by unfold Sp.Env.dfn; rw [hD.1]
  have hnb : ¬ (3 ≤ f ∧ f ≤ 16) → (ob u f).isBase = false := by
    intro z
    cases e : (ob u f).isBase with
    | false => rfl
    | true => exact absurd (base_is hT hU f0 f1 e) z
  rcases h with ⟨h1, h2, h3⟩ | ⟨h1, h2, h3⟩ | ⟨h1, h2, d, d0, d1, d2, d3, d4⟩ | ⟨h1, h2, h3, h4⟩
  · refine Or.inr (Or.inl ⟨by omega, by omega, h3, ?_⟩)
    rw [key]
    refine (find_rng _).2 (fun e he => ?_)
    have hd1 : (e : Int) < u.1 35 := by omega
    obtain ⟨⟨a1, a2, a3⟩, _⟩ := hD.2.2 (e : Int) (by omega) hd1
    refine decide_eq_false (fun z => ?_)
    have z : ob u (u.2.1 36 (e : Int)) = ob u f := z
    rw [z] at a3
    have := base_nd hT hU h1 h2
    unfold Ob.isName Ob.reserved at a3
    rw [this] at a3
    simp at a3
  · omega
  · refine Or.inr (Or.inr ⟨d, d0, d1, d4, d2, ?_, hnb h1⟩)
    rw [key]
    have := (find_rng (g := fun i : Nat => dfn1 u (i : Int)) (p := fun d => decide (d.name = ob u f)) (u.1 35).toNat).1 d.toNat (by omega) ?_ (fun e he => ?_)
    · rw [Int.toNat_of_nonneg d0] at this
      exact this
    · rw [Int.toNat_of_nonneg d0]
      exact (hnm d d0 d1).mpr d2
    · cases c : decide ((dfn1 u (e : Int)).name = ob u f) with
      | false => rfl
      | true => exact absurd ((hnm e (by omega) (by omega)).mp c) (d3 e (by omega) (by omega))
  · refine Or.inl ⟨h4, ?_, hnb h1⟩
    rw [key]
    refine (find_rng _).2 (fun e he => ?_)
    cases c : decide ((dfn1 u (e : Int)).name = ob u f) with
    | false => rfl
    | true => exact absurd ((hnm e (by omega) (by omega)).mp c) (h3 e (by omega) (by omega))
