-- deps: 551
/-! the reference: the parts of a PROOF -/
def pfr [DecidableEq Ob] (f : Int) : Int := if f = 27 then 3 else if f = 39 ∨ f = 40 then 2 else if f = 41 ∨ f = 42 ∨ f = 43 then 1 else 0
def pto [DecidableEq Ob] (f n : Int) : Int := if f = 27 then n else if f = 39 ∨ f = 43 then 3 else if f = 40 then 4 else if f = 41 ∨ f = 42 then 2 else 0
theorem pfr_0 [DecidableEq Ob] {f : Int} (h : f ≠ 27) (h1 : f ≠ 39) (h2 : f ≠ 40) (h3 : f ≠ 41) (h4 : f ≠ 42) (h5 : f ≠ 43) : pfr f = 0 := by
  unfold pfr
  rw [if_neg h, if_neg (by omega), if_neg (by omega)]
theorem pto_0 [DecidableEq Ob] {f n : Int} (h : f ≠ 27) (h1 : f ≠ 39) (h2 : f ≠ 40) (h3 : f ≠ 41) (h4 : f ≠ 42) (h5 : f ≠ 43) : pto f n = 0 := by
  unfold pto
  rw [if_neg h, if_neg (by omega), if_neg h2, if_neg (by omega)]
theorem pto_27 [DecidableEq Ob] (n : Int) : pto 27 n = n := if_pos rfl
theorem pto_39 [DecidableEq Ob] (n : Int) : pto 39 n = 3 := by unfold pto; rw [if_neg (by decide), if_pos (by decide)]
theorem pto_40 [DecidableEq Ob] (n : Int) : pto 40 n = 4 := by unfold pto; rw [if_neg (by decide), if_neg (by decide), if_pos rfl]
theorem pto_41 [DecidableEq Ob] (n : Int) : pto 41 n = 2 := by unfold pto; rw [if_neg (by decide), if_neg (by decide), if_neg (by decide), if_pos (by decide)]
theorem pto_42 [DecidableEq Ob] (n : Int) : pto 42 n = 2 := by unfold pto; rw [if_neg (by decide), if_neg (by decide), if_neg (by decide), if_pos (by decide)]
theorem pto_43 [DecidableEq Ob] (n : Int) : pto 43 n = 3 := by unfold pto; rw [if_neg (by decide), if_pos (by decide)]
theorem pfr_27 [DecidableEq Ob] : pfr 27 = 3 := if_pos rfl
theorem pfr_39 [DecidableEq Ob] : pfr 39 = 2 := by unfold pfr; rw [if_neg (by decide), if_pos (by decide)]
theorem pfr_40 [DecidableEq Ob] : pfr 40 = 2 := by unfold pfr; rw [if_neg (by decide), if_pos (by decide)]
theorem pfr_41 [DecidableEq Ob] : pfr 41 = 1 := by unfold pfr; rw [if_neg (by decide), if_neg (by decide), if_pos (by decide)]
theorem pfr_42 [DecidableEq Ob] : pfr 42 = 1 := by unfold pfr; rw [if_neg (by decide), if_neg (by decide), if_pos (by decide)]
theorem pfr_43 [DecidableEq Ob] : pfr 43 = 1 := by unfold pfr; rw [if_neg (by decide), if_neg (by decide), if_pos (by decide)]
theorem p_partsFrom [DecidableEq Ob] {f : Int} {Q : Int → iST → Prop} {u : iST} (h : Q (pfr f) u) : pw_partsFrom f Q u := by
  unfold pw_partsFrom
  refine ⟨fun c27 => ?_, fun n27 => ⟨fun c28 => ?_, fun n28 => ⟨fun c29 => ?_, fun n29 => ⟨fun c30 => ?_, fun n30 => ⟨fun c31 => ?_, fun n31 => ⟨fun c32 => ?_, fun n32 => ⟨fun c33 => ?_, fun n33 => ⟨fun c34 => ?_, fun n34 => ⟨fun c35 => ?_, fun n35 => ⟨fun c36 => ?_, fun n36 => ⟨fun c37 => ?_, fun n37 => ⟨fun c38 => ?_, fun n38 => ⟨fun c39 => ?_, fun n39 => ⟨fun c40 => ?_, fun n40 => ⟨fun c41 => ?_, fun n41 => ⟨fun c42 => ?_, fun n42 => ⟨fun c43 => ?_, fun n43 => ?_⟩⟩⟩⟩⟩⟩⟩⟩⟩⟩⟩⟩⟩⟩⟩⟩⟩
  · rw [c27, pfr_27] at h; exact h
  · rw [pfr_0 (by omega) (by omega) (by omega) (by omega) (by omega) (by omega)] at h; exact h
  · rw [pfr_0 (by omega) (by omega) (by omega) (by omega) (by omega) (by omega)] at h; exact h
  · rw [pfr_0 (by omega) (by omega) (by omega) (by omega) (by omega) (by omega)] at h; exact h
  · rw [pfr_0 (by omega) (by omega) (by omega) (by omega) (by omega) (by omega)] at h; exact h
  · rw [pfr_0 (by omega) (by omega) (by omega) (by omega) (by omega) (by omega)] at h; exact h
  · rw [pfr_0 (by omega) (by omega) (by omega) (by omega) (by omega) (by omega)] at h; exact h
  · rw [pfr_0 (by omega) (by omega) (by omega) (by omega) (by omega) (by omega)] at h; exact h
  · rw [pfr_0 (by omega) (by omega) (by omega) (by omega) (by omega) (by omega)] at h; exact h
  · rw [pfr_0 (by omega) (by omega) (by omega) (by omega) (by omega) (by omega)] at h; exact h
  · rw [pfr_0 (by omega) (by omega) (by omega) (by omega) (by omega) (by omega)] at h; exact h
  · rw [pfr_0 (by omega) (by omega) (by omega) (by omega) (by omega) (by omega)] at h; exact h
  · rw [c39, pfr_39] at h; exact h
  · rw [c40, pfr_40] at h; exact h
  · rw [c41, pfr_41] at h; exact h
  · rw [c42, pfr_42] at h; exact h
  · rw [c43, pfr_43] at h; exact h
  · rw [pfr_0 n27 n39 n40 n41 n42 n43] at h; exact h
theorem p_partsTo [DecidableEq Ob] {a : Int} {Q : Int → iST → Prop} {u : iST} (hT : TI u) (hU : TU u) (a0 : 0 ≤ a) (a1 : a < u.1 8) (h : Q (pto (u.2.1 0 a) (ob u a).len) u) : pw_partsTo a Q u := by
  unfold pw_partsTo
  intro _ _ f ef _
  rw [← ef] at h
  refine ⟨fun c27 => ?_, fun n27 => ⟨fun c28 => ?_, fun n28 => ⟨fun c29 => ?_, fun n29 => ⟨fun c30 => ?_, fun n30 => ⟨fun c31 => ?_, fun n31 => ⟨fun c32 => ?_, fun n32 => ⟨fun c33 => ?_, fun n33 => ⟨fun c34 => ?_, fun n34 => ⟨fun c35 => ?_, fun n35 => ⟨fun c36 => ?_, fun n36 => ⟨fun c37 => ?_, fun n37 => ⟨fun c38 => ?_, fun n38 => ⟨fun c39 => ?_, fun n39 => ⟨fun c40 => ?_, fun n40 => ⟨fun c41 => ?_, fun n41 => ⟨fun c42 => ?_, fun n42 => ⟨fun c43 => ?_, fun n43 => ?_⟩⟩⟩⟩⟩⟩⟩⟩⟩⟩⟩⟩⟩⟩⟩⟩⟩
  · rw [c27, pto_27] at h; exact p_lengthOf hT hU a0 a1 h
  · rw [pto_0 (by omega) (by omega) (by omega) (by omega) (by omega) (by omega)] at h; exact h
  · rw [pto_0 (by omega) (by omega) (by omega) (by omega) (by omega) (by omega)] at h; exact h
  · rw [pto_0 (by omega) (by omega) (by omega) (by omega) (by omega) (by omega)] at h; exact h
  · rw [pto_0 (by omega) (by omega) (by omega) (by omega) (by omega) (by omega)] at h; exact h
  · rw [pto_0 (by omega) (by omega) (by omega) (by omega) (by omega) (by omega)] at h; exact h
  · rw [pto_0 (by omega) (by omega) (by omega) (by omega) (by omega) (by omega)] at h; exact h
  · rw [pto_0 (by omega) (by omega) (by omega) (by omega) (by omega) (by omega)] at h; exact h
  · rw [pto_0 (by omega) (by omega) (by omega) (by omega) (by omega) (by omega)] at h; exact h
  · rw [pto_0 (by omega) (by omega) (by omega) (by omega) (by omega) (by omega)] at h; exact h
  · rw [pto_0 (by omega) (by omega) (by omega) (by omega) (by omega) (by omega)] at h; exact h
  · rw [pto_0 (by omega) (by omega) (by omega) (by omega) (by omega) (by omega)] at h; exact h
  · rw [c39, pto_39] at h; exact h
  · rw [c40, pto_40] at h; exact h
  · rw [c41, pto_41] at h; exact h
  · rw [c42, pto_42] at h; exact h
  · rw [c43, pto_43] at h; exact h
  · rw [pto_0 n27 n39 n40 n41 n42 n43] at h; exact h
theorem pft [DecidableEq Ob] {E : Sp.Env} {o : Ob} {f : Int} (hf : Sp.isForm E o = true) (kf : ∀ (k : Int) (s : Ob), 0 ≤ k → k < 44 → Ob.known[k.toNat]? = some s → (f = k ↔ Ob.lft o = s)) : 0 ≤ pfr f ∧ pto f o.len = pfr f + ((Sp.partsOf o).length : Int) ∧ (Sp.partsOf o ≠ [] → pto f o.len ≤ o.len) ∧ ∀ (i : Nat) (h : i < (Sp.partsOf o).length), (Sp.partsOf o)[i] = Ob.item o ((pfr f).toNat + i) := by
  by_cases c0 : Ob.lft o = Ob.weak
  · rw [isForm_weak c0, Bool.and_eq_true, Bool.and_eq_true, beq_iff_eq] at hf
    rw [parts_weak c0, (kf 39 Ob.weak (by decide) (by decide) rfl).mpr c0, pto_39, pfr_39]
    refine ⟨by decide, rfl, fun _ => by omega, fun i h => ?_⟩
    have h : i = 0 := Nat.lt_one_iff.mp h
    subst h; rfl
  by_cases c1 : Ob.lft o = Ob.cut
  · rw [isForm_cut c1, Bool.and_eq_true, beq_iff_eq] at hf
    rw [parts_cut c1, (kf 40 Ob.cut (by decide) (by decide) rfl).mpr c1, pto_40, pfr_40]
    refine ⟨by decide, rfl, fun _ => by omega, fun i h => ?_⟩
    have h : i < 2 := h
    have h : i = 0 ∨ i = 1 := by omega
    rcases h with h | h <;> (subst h; rfl)
  by_cases c2 : Ob.lft o = Ob.inst
  · rw [isForm_inst c2, Bool.and_eq_true, decide_eq_true_eq] at hf
    rw [parts_inst c2, (kf 41 Ob.inst (by decide) (by decide) rfl).mpr c2, pto_41, pfr_41]
    refine ⟨by decide, rfl, fun _ => by omega, fun i h => ?_⟩
    have h : i = 0 := Nat.lt_one_iff.mp h
    subst h; rfl
  by_cases c3 : Ob.lft o = Ob.swap
  · rw [isForm_swap c3, beq_iff_eq] at hf
    rw [parts_swap c3, (kf 42 Ob.swap (by decide) (by decide) rfl).mpr c3, pto_42, pfr_42]
    refine ⟨by decide, rfl, fun _ => by omega, fun i h => ?_⟩
    have h : i = 0 := Nat.lt_one_iff.mp h
    subst h; rfl
  by_cases c4 : Ob.lft o = Ob.put
  · rw [isForm_put c4, beq_iff_eq] at hf
    rw [parts_put c4, (kf 43 Ob.put (by decide) (by decide) rfl).mpr c4, pto_43, pfr_43]
    refine ⟨by decide, rfl, fun _ => by omega, fun i h => ?_⟩
    have h : i < 2 := h
    have h : i = 0 ∨ i = 1 := by omega
    rcases h with h | h <;> (subst h; rfl)
  by_cases c5 : Ob.lft o = Ob.induct
  · rw [isForm_induct c5, Bool.and_eq_true, Bool.and_eq_true, Bool.and_eq_true, decide_eq_true_eq] at hf
    have h3 := hf.1.1.1
    have e := toList_len' (o := o) (by omega)
    rw [parts_induct c5, (kf 27 Ob.induct (by decide) (by decide) rfl).mpr c5, pto_27, pfr_27]
    refine ⟨by decide, by rw [List.length_drop]; omega, fun _ => by omega, fun i h => ?_⟩
    have h' := h
    rw [List.length_drop] at h'
    rw [List.getElem_drop, Ob.item_get, List.getD_eq_getElem?_getD, List.getElem?_eq_getElem (by show 3 + i < _; omega)]
    rfl
  have n : ∀ (k : Int) (s : Ob), 0 ≤ k → k < 44 → Ob.known[k.toNat]? = some s → ¬ Ob.lft o = s → f ≠ k := fun k s k0 k4 hs hn z => hn ((kf k s k0 k4 hs).mp z)
  have n27 := n 27 _ (by decide) (by decide) rfl c5
  have n39 := n 39 _ (by decide) (by decide) rfl c0
  have n40 := n 40 _ (by decide) (by decide) rfl c1
  have n41 := n 41 _ (by decide) (by decide) rfl c2
  have n42 := n 42 _ (by decide) (by decide) rfl c3
  have n43 := n 43 _ (by decide) (by decide) rfl c4
  have ep : Sp.partsOf o = [] := by
    unfold Sp.partsOf
    rw [if_neg c0, if_neg c1, if_neg (fun z => z.elim c2 c3), if_neg c4, if_neg c5]
  rw [ep, pfr_0 n27 n39 n40 n41 n42 n43, pto_0 n27 n39 n40 n41 n42 n43]
  exact ⟨by decide, rfl, fun z => absurd rfl z, fun i h => absurd h (Nat.not_lt_zero _)⟩
