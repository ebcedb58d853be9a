-- deps: 712
/-! the class: matching -/
def f8b (k : Nat) : Bool := decide (k = 39)
def f8m (k : Nat) : Bool := decide (35 ≤ k ∧ k ≤ 36) || decide (41 ≤ k ∧ k ≤ 43)
theorem lkApp [DecidableEq Ob] {x y : Ob} : ∀ {l : List (Ob × Ob)} (z : Ob), Ob.lk l x = none → Ob.lk (l ++ [(x, y)]) z = if x = z then some y else Ob.lk l z
  | [], z, _ => rfl
  | (a, b) :: l, z, h => by
    have h1 : (if a = x then some b else Ob.lk l x) = none := h
    have hax : ¬ a = x := fun q => by rw [if_pos q] at h1; cases h1
    rw [if_neg hax] at h1
    show (if a = z then some b else Ob.lk (l ++ [(x, y)]) z) = if x = z then some y else (if a = z then some b else Ob.lk l z)
    rw [lkApp z h1]
    by_cases c : a = z
    · rw [if_pos c, if_pos c, if_neg (fun q => hax (by rw [c, q]))]
    · rw [if_neg c, if_neg c]
theorem Ag_app [DecidableEq Ob] {s : Ob → Ob} {l : List (Ob × Ob)} {x y : Ob} (h : Ob.lk l x = none) : Ag s (l ++ [(x, y)]) ↔ Ag s l ∧ s x = y := by
  unfold Ag
  constructor
  · intro g
    refine ⟨fun a b e => g a b ?_, g x y ?_⟩
    · rw [lkApp a h]
      by_cases c : x = a
      · rw [← c, h] at e; cases e
      · rw [if_neg c]; exact e
    · rw [lkApp x h, if_pos rfl]
  · rintro ⟨g1, g2⟩ a b e
    rw [lkApp a h] at e
    by_cases c : x = a
    · rw [if_pos c] at e
      rw [← c, g2]; exact Option.some.inj e
    · rw [if_neg c] at e; exact g1 a b e
theorem pc_bind [DecidableEq Ob] {a b : Int} {Q : iST → Prop} {u : iST} (hT : CT u) (hB : BnOk u) (ha : VN u a) (hb : VN u b) (hm : u.1 39 < 256) (hq : ∀ v, CG f8b f8m u v → BnOk v → bdL v = bdL u ++ [(oc u a, oc u b)] → v.1 39 = u.1 39 + 1 → (∀ k, k ≠ 35 → k ≠ 36 → v.2.1 k = u.2.1 k) → (∀ i, v.2.1 35 i = if i = u.1 39 then a else u.2.1 35 i) → (∀ i, v.2.1 36 i = if i = u.1 39 then b else u.2.1 36 i) → v.2.2 = u.2.2 → Q v) : pv_10_bind a b Q u := by
  obtain ⟨b1, b2, b3⟩ := hB
  unfold pv_10_bind
  intro x ex _
  rw [ex]
  refine ⟨fun z => by omega, fun _ => ?_⟩
  intro x2 ex2 _ _ _ y1 ey1 x3 ex3 _ _ _ y2 ey2 x4 ex4 _ _ y3 ey3
  have e2 : x2 = u.1 39 := ex2
  have e3 : x3 = u.1 39 := by rw [ex3, ey1]; rfl
  have e4 : x4 = u.1 39 := by rw [ex4, ey2, ey1]; rfl
  rw [e2] at ey1
  rw [e3] at ey2
  rw [e4] at ey3
  have g1 : CG f8b f8m u y1 := by rw [ey1]; exact CG_A hT (by decide) (by decide)
  have g2 : CG f8b f8m y1 y2 := by rw [ey2]; exact CG_A g1.1 (by decide) (by decide)
  have g3 : CG f8b f8m y2 y3 := by rw [ey3]; exact CG_I g2.1 (by decide) (by decide)
  have g := (g1.tr g2).tr g3
  have n39 : y3.1 39 = u.1 39 + 1 := by rw [ey3]; rfl
  have r35 : ∀ i, y3.2.1 35 i = if i = u.1 39 then a else u.2.1 35 i := fun i => by rw [ey3, ey2, ey1]; rfl
  have r36 : ∀ i, y3.2.1 36 i = if i = u.1 39 then b else u.2.1 36 i := fun i => by rw [ey3, ey2, ey1]; rfl
  have rr : ∀ k, k ≠ 35 → k ≠ 36 → y3.2.1 k = u.2.1 k := fun k h5 h6 => by rw [ey3, ey2, ey1]; exact (if_neg h6).trans (if_neg h5)
  have rc : y3.2.2 = u.2.2 := by rw [ey3, ey2, ey1]; rfl
  refine hq y3 g ⟨by omega, by omega, fun i i0 i1 => ?_⟩ ?_ n39 rr r35 r36 rc
  · rw [r35, r36]
    by_cases q : i = u.1 39
    · rw [if_pos q, if_pos q]; exact ⟨ha.up g, hb.up g⟩
    · rw [if_neg q, if_neg q]
      obtain ⟨c1, c2⟩ := b3 i i0 (by omega)
      exact ⟨c1.up g, c2.up g⟩
  · unfold bdL
    rw [n39, show (u.1 39 + 1).toNat = (u.1 39).toNat + 1 by omega, List.range_succ, List.map_append]
    have q1 : (List.range (u.1 39).toNat).map (fun i : Nat => (oc y3 (y3.2.1 35 (i : Int)), oc y3 (y3.2.1 36 (i : Int)))) = (List.range (u.1 39).toNat).map (fun i : Nat => (oc u (u.2.1 35 (i : Int)), oc u (u.2.1 36 (i : Int)))) := List.map_congr_left (fun i hi => by
      have := List.mem_range.mp hi
      rw [r35, r36, if_neg (by omega), if_neg (by omega), oc_same rc, oc_same rc])
    rw [q1]
    refine congrArg (fun q => _ ++ q) ?_
    show [(oc y3 (y3.2.1 35 (((u.1 39).toNat : Nat) : Int)), oc y3 (y3.2.1 36 (((u.1 39).toNat : Nat) : Int)))] = _
    rw [r35, r36, if_pos (by omega), if_pos (by omega), oc_same rc, oc_same rc]
/-- pairs that still wait -/
def PnA [DecidableEq Ob] (s : Ob → Ob) (y : iST) (n : Int) : Prop := ∀ i, 0 ≤ i → i < n → Ob.sbM s false (oc y (y.2.1 41 i)) = oc y (y.2.1 42 i)
def wsm [DecidableEq Ob] (y : iST) : Nat → Int | 0 => 0 | n + 1 => wsm y n + (oc y (y.2.1 41 (n : Int))).sz
theorem wsm_ge [DecidableEq Ob] (y : iST) : ∀ n : Nat, (n : Int) ≤ wsm y n
  | 0 => Int.le_refl _
  | n + 1 => by
    have h1 := wsm_ge y n
    have h2 := Ob.sz_pos (oc y (y.2.1 41 (n : Int)))
    show ((n + 1 : Nat) : Int) ≤ wsm y n + (oc y (y.2.1 41 (n : Int))).sz
    omega
theorem wsm_congr [DecidableEq Ob] {y z : iST} : ∀ n : Nat, (∀ i : Nat, i < n → oc z (z.2.1 41 (i : Int)) = oc y (y.2.1 41 (i : Int))) → wsm z n = wsm y n
  | 0, _ => rfl
  | n + 1, h => by
    show wsm z n + (oc z (z.2.1 41 (n : Int))).sz = wsm y n + (oc y (y.2.1 41 (n : Int))).sz
    rw [wsm_congr n (fun i hi => h i (by omega)), h n (by omega)]
/-- matching under way -/
def KyD [DecidableEq Ob] (y : iST) : Prop := ∀ i j, 0 ≤ i → i < j → j < y.1 39 → oc y (y.2.1 35 i) ≠ oc y (y.2.1 35 j)
def MtC [DecidableEq Ob] (u : iST) (E : Sp.Env) (p o : Ob) (y : iST) (n t : Int) (X : (Ob → Ob) → Prop) (V : Ob → Prop) (c : Int) : Prop :=
  CG f8b f8m u y ∧ (0 ≤ n ∧ 0 ≤ t ∧ y.1 39 ≤ t ∧ t + wsm y n.toNat + c ≤ 120) ∧ ((BnOk y ∧ KyD y) ∧ ∀ i, 0 ≤ i → i < y.1 39 → (oc y (y.2.1 35 i)).isVar = true ∧ NdC y E (y.2.1 36 i)) ∧ (∀ i, 0 ≤ i → i < n → NdC y E (y.2.1 41 i) ∧ NdC y E (y.2.1 42 i)) ∧ (∀ s, Ob.sbM s false p = o ↔ Ag s (bdL y) ∧ PnA s y n ∧ X s) ∧ ∀ x, vr false p x → (Ob.lk (bdL y) x).isSome = true ∨ (∃ i, 0 ≤ i ∧ i < n ∧ vr false (oc y (y.2.1 41 i)) x) ∨ V x
theorem sb_fix [DecidableEq Ob] {s : Ob → Ob} {o : Ob} (hc : o.isCall = false) (hv : o.isVar = false) : Ob.sbM s false o = o := by
  cases o with
  | var x =>
    rw [sb_leaf, if_neg (by rw [hv]; decide)]
  | op a b =>
    rw [show Ob.sbM s false (.op a b) = _ from sb_pr s a b, if_pos (Decidable.not_not.mp (of_decide_eq_false hc))]
theorem vr_fix [DecidableEq Ob] {o x : Ob} (hc : o.isCall = false) (hv : o.isVar = false) : ¬ vr false o x := by
  cases o with
  | var z =>
    intro h
    obtain ⟨h1, h2⟩ := vr_leaf.mp h
    rw [h1] at h2
    have hv : Ob.isVar (.var z) = false := hv
    rw [hv] at h2; cases h2
  | op a b =>
    intro h
    exact (vr_pr.mp h).1 (Decidable.not_not.mp (of_decide_eq_false hc))
