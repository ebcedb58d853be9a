-- deps: 705
/-! the class: terms made anew: what it comes to, a call is closed -/
def rbM [DecidableEq Ob] (μ : Mu) : Bool → Ob → Option Ob
  | true, .op a b => match rbM μ false a with | some x => (match rbM μ true b with | some y => some (.pr x y) | none => none) | none => none
  | true, .var _ => some Ob.nil
  | false, .op a b => match μ (.pr a b) with | some (some x) => some x | some none => (match rbM μ true b with | some y => if Ob.sz (.pr a y) ≤ 120 then some (.pr a y) else none | none => none) | none => none
  | false, .var z => match μ (.var z) with | some (some x) => some x | _ => none
/-- how deep it goes; how many items -/
def dpM [DecidableEq Ob] : Bool → Ob → Int
  | true, .op a b => if dpM false a ≤ dpM true b then dpM true b else dpM false a
  | true, .var _ => 0
  | false, .op a b => if a = Ob.quote then 0 else 1 + dpM true b
  | false, .var _ => 0
def itN [DecidableEq Ob] : Ob → Int | .op _ b => 1 + itN b | .var _ => 0
theorem itN_pos [DecidableEq Ob] : ∀ o : Ob, 0 ≤ itN o
  | .op _ b => by have := itN_pos b; show 0 ≤ 1 + itN b; omega
  | .var _ => Int.le_refl _
theorem dpM_pos [DecidableEq Ob] : ∀ (m : Bool) (o : Ob), 0 ≤ dpM m o
  | true, .op a b => by
    have h1 := dpM_pos false a
    have h2 := dpM_pos true b
    show 0 ≤ (if dpM false a ≤ dpM true b then dpM true b else dpM false a)
    split <;> omega
  | true, .var _ => Int.le_refl _
  | false, .op a b => by
    have h2 := dpM_pos true b
    show 0 ≤ (if a = Ob.quote then 0 else 1 + dpM true b)
    split <;> omega
  | false, .var _ => Int.le_refl _
theorem csM_it [DecidableEq Ob] : ∀ (m : Bool) (o : Ob), 0 ≤ Ob.csM m o ∧ (m = true → itN o ≤ Ob.csM m o)
  | true, .op a b => by
    have h1 := (csM_it false a).1
    have h2 := (csM_it true b).2 rfl
    have h3 := itN_pos b
    exact ⟨by show 0 ≤ 1 + Ob.csM false a + Ob.csM true b; omega, fun _ => by show 1 + itN b ≤ 1 + Ob.csM false a + Ob.csM true b; omega⟩
  | true, .var _ => ⟨Int.le_refl _, fun _ => Int.le_refl _⟩
  | false, .op a b => by
    have h2 := (csM_it true b).1
    refine ⟨?_, fun z => by cases z⟩
    show 0 ≤ (if a = Ob.quote then 0 else 1 + Ob.csM true b)
    split <;> omega
  | false, .var _ => ⟨Int.le_refl _, fun z => by cases z⟩
def lsC [DecidableEq Ob] (u : iST) (g : Int → Int) (lo : Int) (n : Nat) : List Ob := (List.range n).map (fun i : Nat => oc u (g (lo + (i : Int))))
theorem lsC_len [DecidableEq Ob] (u : iST) (g : Int → Int) (lo : Int) (n : Nat) : (lsC u g lo n).length = n := by unfold lsC; simp
theorem lsC_get [DecidableEq Ob] (u : iST) (g : Int → Int) (lo : Int) (n : Nat) {i : Nat} (hi : i < n) : (lsC u g lo n)[i]? = some (oc u (g (lo + (i : Int)))) := by
  unfold lsC
  rw [List.getElem?_map, List.getElem?_range hi]
  rfl
theorem lsC_cons [DecidableEq Ob] (u : iST) (g : Int → Int) (lo : Int) (n : Nat) : lsC u g lo (n + 1) = oc u (g lo) :: lsC u g (lo + 1) n := by
  unfold lsC
  rw [List.range_succ_eq_map, List.map_cons, List.map_map]
  refine congr (congrArg List.cons ?_) (List.map_congr_left (fun i _ => ?_))
  · rw [show lo + ((0 : Nat) : Int) = lo by omega]
  · show oc u (g (lo + ((i + 1 : Nat) : Int))) = oc u (g (lo + 1 + (i : Int)))
    rw [show lo + ((i + 1 : Nat) : Int) = lo + 1 + (i : Int) by omega]
theorem lsC_congr [DecidableEq Ob] {u v : iST} {g h : Int → Int} {lo lo' : Int} {n : Nat} (e : ∀ i : Nat, i < n → oc v (h (lo' + (i : Int))) = oc u (g (lo + (i : Int)))) : lsC v h lo' n = lsC u g lo n := by
  unfold lsC
  exact List.map_congr_left (fun i hi => e i (List.mem_range.mp hi))
/-- fields that making anew changes -/
def f8B (k : Nat) : Bool := decide (k = 29) || decide (k = 32)
def f8W (k : Nat) : Bool := decide (27 ≤ k ∧ k ≤ 30) || decide (37 ≤ k ∧ k ≤ 40)
theorem f8M_B [DecidableEq Ob] : ∀ k, f8B k = false → f8M k = false := fun k h => by unfold f8B at h; rw [Bool.or_eq_false_iff] at h; exact h.1
theorem f8R_W [DecidableEq Ob] : ∀ k, f8W k = false → f8R k = false := fun k h => by unfold f8W at h; rw [Bool.or_eq_false_iff] at h; exact h.1
def RbK [DecidableEq Ob] (d e : Int) (u v : iST) : Prop := CG f8B f8W u v ∧ (u.1 32 ≠ 0 → v.1 32 ≠ 0) ∧ (∀ j, j < d → v.2.1 37 j = u.2.1 37 j ∧ v.2.1 38 j = u.2.1 38 j ∧ v.2.1 39 j = u.2.1 39 j) ∧ ∀ j, j < e → v.2.1 40 j = u.2.1 40 j
theorem RbK.tr [DecidableEq Ob] {d e d' e' : Int} {u v w : iST} (h : RbK d e u v) (g : RbK d' e' v w) (hd : d ≤ d') (he : e ≤ e') : RbK d e u w := by
  obtain ⟨h1, h2, h3, h4⟩ := h
  obtain ⟨g1, g2, g3, g4⟩ := g
  refine ⟨h1.tr g1, fun z => g2 (h2 z), fun j hj => ?_, fun j hj => (g4 j (by omega)).trans (h4 j hj)⟩
  obtain ⟨a1, a2, a3⟩ := g3 j (by omega)
  obtain ⟨b1, b2, b3⟩ := h3 j hj
  exact ⟨a1.trans b1, a2.trans b2, a3.trans b3⟩
theorem RbK.rf [DecidableEq Ob] {d e : Int} {u : iST} (h : CT u) : RbK d e u u := ⟨CG.rf h, id, fun _ _ => ⟨rfl, rfl, rfl⟩, fun _ _ => rfl⟩
theorem RbK_M [DecidableEq Ob] {d e : Int} {u v : iST} (g : CG f8M f8R u v) : RbK d e u v := ⟨g.mono f8M_B f8R_W, fun z => by rw [g.2.2.1 32 (by decide)]; exact z, fun j _ => ⟨by rw [g.2.2.2 37 (by decide)], by rw [g.2.2.2 38 (by decide)], by rw [g.2.2.2 39 (by decide)]⟩, fun j _ => by rw [g.2.2.2 40 (by decide)]⟩
theorem RbK_A [DecidableEq Ob] {d e i x : Int} {u : iST} {k : Nat} (h : CT u) (h0 : 37 ≤ k) (h1 : k ≤ 40) (hd : k ≤ 39 → d ≤ i) (he : k = 40 → e ≤ i) : RbK d e u (iA u k i x) := by
  have far : ∀ g j, (g = k → j ≠ i) → (iA u k i x).2.1 g j = u.2.1 g j := fun g j h => by
    show (if g = k then (fun y => if y = i then x else u.2.1 k y) else u.2.1 g) j = _
    by_cases c1 : g = k
    · rw [if_pos c1]
      show (if j = i then x else u.2.1 k j) = _
      rw [if_neg (h c1), c1]
    · rw [if_neg c1]
  exact ⟨CG_A h (by omega) (by unfold f8W; rw [decide_eq_true (show 37 ≤ k ∧ k ≤ 40 from ⟨h0, h1⟩), Bool.or_true]), id, fun j hj => ⟨far 37 j (fun e => by have := hd (by omega); omega), far 38 j (fun e => by have := hd (by omega); omega), far 39 j (fun e => by have := hd (by omega); omega)⟩, fun j hj => far 40 j (fun e => by have := he e.symm; omega)⟩
def rbL [DecidableEq Ob] (Q : Int → iST → Prop) (w x3 x4 x5 x6 : Int) (u : iST) : Prop := pv_10_rebuilt_11 Q w x3 x4 x5 x6 u
def rbC [DecidableEq Ob] (Q : Int → iST → Prop) (w x3 x4 x6 : Int) (u : iST) : Prop := pv_10_rebuilt_128 (fun a b c d e u => pv_10_rebuilt_11 Q a b c d e u) Q w x3 x4 x6 u
theorem pc_isTooBig [DecidableEq Ob] {k w : Int} {Q : Int → iST → Prop} {u : iST} (hT : CT u) (hk : VN u k) (hno : (oc u k).sz ≤ 120 → Q 0 u) (hbig : 120 < (oc u k).sz → ∀ v, CG f8B f8W u v → v.1 29 = u.1 29 → (w = 0 → v = u) → (w ≠ 0 → v.1 32 ≠ 0) → Q 1 v) : pv_10_isTooBig k w Q u := by
  unfold pv_10_isTooBig
  refine pc_sizeOf hT hk ?_
  have hs : szC (oc u k) ≤ 120 ↔ (oc u k).sz ≤ 120 := by
    unfold szC
    split <;> omega
  refine ⟨fun h => ?_, fun h => ?_⟩
  · unfold pv_10_isTooBig_18
    exact ⟨fun _ _ => hno (hs.mp h), fun z => absurd rfl z⟩
  · have hb : 120 < (oc u k).sz := by
      by_cases q : (oc u k).sz ≤ 120
      · exact absurd (hs.mpr q) h
      · omega
    unfold pv_10_isTooBig_18
    refine ⟨(fun z => by cases z), fun _ => ⟨fun hw _ => hbig hb u (CG.rf hT) rfl (fun _ => rfl) (fun z => absurd hw z), fun hw => ?_⟩⟩
    refine pc_blame hT (by decide) (fun v gv v32 => ?_)
    intro _
    exact hbig hb v (gv.mono (fun k hk => by
      unfold f8B at hk
      rw [Bool.or_eq_false_iff] at hk
      exact hk.2) f80_any) (gv.2.2.1 29 (by decide)) (fun z => absurd z hw) (fun _ => v32)
