-- deps: 534
/-! the reference: the form of a PROOF, case by case (laid by a program) -/
theorem isForm_taut [DecidableEq Ob] {E : Sp.Env} {o : Ob} (h : Ob.lft o = Ob.taut) : Sp.isForm E o = (Ob.len o == 2 && Sp.termsAt E o 1) := by
  have ne : ∀ s : List Int, Ob.enc s ≠ Ob.enc [116, 97, 117, 116] → Ob.lft o ≠ Ob.sym s := fun s h1 z => Ob.sym_ne h1 (z.symm.trans h)
  unfold Sp.isForm
  rw [if_pos (show Ob.lft o = Ob.taut ∨ Ob.lft o = Ob.same from Or.inl h)]
theorem isForm_same [DecidableEq Ob] {E : Sp.Env} {o : Ob} (h : Ob.lft o = Ob.same) : Sp.isForm E o = (Ob.len o == 2 && Sp.termsAt E o 1) := by
  have ne : ∀ s : List Int, Ob.enc s ≠ Ob.enc [115, 97, 109, 101] → Ob.lft o ≠ Ob.sym s := fun s h1 z => Ob.sym_ne h1 (z.symm.trans h)
  unfold Sp.isForm
  rw [if_pos (show Ob.lft o = Ob.taut ∨ Ob.lft o = Ob.same from Or.inr h)]
theorem isForm_value [DecidableEq Ob] {E : Sp.Env} {o : Ob} (h : Ob.lft o = Ob.value) : Sp.isForm E o = (Ob.len o == 2 && (match Sp.rdAt E o 1 with | some L => (Sp.toldV L).isSome | none => false)) := by
  have ne : ∀ s : List Int, Ob.enc s ≠ Ob.enc [118, 97, 108, 117, 101] → Ob.lft o ≠ Ob.sym s := fun s h1 z => Ob.sym_ne h1 (z.symm.trans h)
  unfold Sp.isForm
  rw [if_neg (show ¬ (Ob.lft o = Ob.taut ∨ Ob.lft o = Ob.same) from fun z => z.elim (ne _ (by decide)) (ne _ (by decide))), if_pos (show Ob.lft o = Ob.value from h)]
  rfl
theorem isForm_first [DecidableEq Ob] {E : Sp.Env} {o : Ob} (h : Ob.lft o = Ob.first) : Sp.isForm E o = (Ob.len o == 3 && Sp.termsAt E o 2) := by
  have ne : ∀ s : List Int, Ob.enc s ≠ Ob.enc [102, 105, 114, 115, 116] → Ob.lft o ≠ Ob.sym s := fun s h1 z => Ob.sym_ne h1 (z.symm.trans h)
  unfold Sp.isForm
  rw [if_neg (show ¬ (Ob.lft o = Ob.taut ∨ Ob.lft o = Ob.same) from fun z => z.elim (ne _ (by decide)) (ne _ (by decide))), if_neg (show ¬ Ob.lft o = Ob.value from ne _ (by decide)), if_pos (show Ob.lft o = Ob.first ∨ Ob.lft o = Ob.second ∨ Ob.lft o = Ob.pair from Or.inl h)]
theorem isForm_second [DecidableEq Ob] {E : Sp.Env} {o : Ob} (h : Ob.lft o = Ob.second) : Sp.isForm E o = (Ob.len o == 3 && Sp.termsAt E o 2) := by
  have ne : ∀ s : List Int, Ob.enc s ≠ Ob.enc [115, 101, 99, 111, 110, 100] → Ob.lft o ≠ Ob.sym s := fun s h1 z => Ob.sym_ne h1 (z.symm.trans h)
  unfold Sp.isForm
  rw [if_neg (show ¬ (Ob.lft o = Ob.taut ∨ Ob.lft o = Ob.same) from fun z => z.elim (ne _ (by decide)) (ne _ (by decide))), if_neg (show ¬ Ob.lft o = Ob.value from ne _ (by decide)), if_pos (show Ob.lft o = Ob.first ∨ Ob.lft o = Ob.second ∨ Ob.lft o = Ob.pair from Or.inr (Or.inl h))]
theorem isForm_pair [DecidableEq Ob] {E : Sp.Env} {o : Ob} (h : Ob.lft o = Ob.pair) : Sp.isForm E o = (Ob.len o == 3 && Sp.termsAt E o 2) := by
  have ne : ∀ s : List Int, Ob.enc s ≠ Ob.enc [112, 97, 105, 114] → Ob.lft o ≠ Ob.sym s := fun s h1 z => Ob.sym_ne h1 (z.symm.trans h)
  unfold Sp.isForm
  rw [if_neg (show ¬ (Ob.lft o = Ob.taut ∨ Ob.lft o = Ob.same) from fun z => z.elim (ne _ (by decide)) (ne _ (by decide))), if_neg (show ¬ Ob.lft o = Ob.value from ne _ (by decide)), if_pos (show Ob.lft o = Ob.first ∨ Ob.lft o = Ob.second ∨ Ob.lft o = Ob.pair from Or.inr (Or.inr h))]
theorem isForm_yes [DecidableEq Ob] {E : Sp.Env} {o : Ob} (h : Ob.lft o = Ob.yes) : Sp.isForm E o = (Ob.len o == 4 && Sp.termsAt E o 3) := by
  have ne : ∀ s : List Int, Ob.enc s ≠ Ob.enc [121, 101, 115] → Ob.lft o ≠ Ob.sym s := fun s h1 z => Ob.sym_ne h1 (z.symm.trans h)
  unfold Sp.isForm
  rw [if_neg (show ¬ (Ob.lft o = Ob.taut ∨ Ob.lft o = Ob.same) from fun z => z.elim (ne _ (by decide)) (ne _ (by decide))), if_neg (show ¬ Ob.lft o = Ob.value from ne _ (by decide)), if_neg (show ¬ (Ob.lft o = Ob.first ∨ Ob.lft o = Ob.second ∨ Ob.lft o = Ob.pair) from fun z => z.elim (ne _ (by decide)) (fun z => z.elim (ne _ (by decide)) (ne _ (by decide)))), if_pos (show Ob.lft o = Ob.yes ∨ Ob.lft o = Ob.no from Or.inl h)]
theorem isForm_no [DecidableEq Ob] {E : Sp.Env} {o : Ob} (h : Ob.lft o = Ob.no) : Sp.isForm E o = (Ob.len o == 4 && Sp.termsAt E o 3) := by
  have ne : ∀ s : List Int, Ob.enc s ≠ Ob.enc [110, 111] → Ob.lft o ≠ Ob.sym s := fun s h1 z => Ob.sym_ne h1 (z.symm.trans h)
  unfold Sp.isForm
  rw [if_neg (show ¬ (Ob.lft o = Ob.taut ∨ Ob.lft o = Ob.same) from fun z => z.elim (ne _ (by decide)) (ne _ (by decide))), if_neg (show ¬ Ob.lft o = Ob.value from ne _ (by decide)), if_neg (show ¬ (Ob.lft o = Ob.first ∨ Ob.lft o = Ob.second ∨ Ob.lft o = Ob.pair) from fun z => z.elim (ne _ (by decide)) (fun z => z.elim (ne _ (by decide)) (ne _ (by decide)))), if_pos (show Ob.lft o = Ob.yes ∨ Ob.lft o = Ob.no from Or.inr h)]
theorem isForm_defS [DecidableEq Ob] {E : Sp.Env} {o : Ob} (h : Ob.lft o = Ob.defS) : Sp.isForm E o = (Ob.len o == 2 && (E.dfn (Ob.item o 1)).isSome) := by
  have ne : ∀ s : List Int, Ob.enc s ≠ Ob.enc [100, 101, 102] → Ob.lft o ≠ Ob.sym s := fun s h1 z => Ob.sym_ne h1 (z.symm.trans h)
  unfold Sp.isForm
  rw [if_neg (show ¬ (Ob.lft o = Ob.taut ∨ Ob.lft o = Ob.same) from fun z => z.elim (ne _ (by decide)) (ne _ (by decide))), if_neg (show ¬ Ob.lft o = Ob.value from ne _ (by decide)), if_neg (show ¬ (Ob.lft o = Ob.first ∨ Ob.lft o = Ob.second ∨ Ob.lft o = Ob.pair) from fun z => z.elim (ne _ (by decide)) (fun z => z.elim (ne _ (by decide)) (ne _ (by decide)))), if_neg (show ¬ (Ob.lft o = Ob.yes ∨ Ob.lft o = Ob.no) from fun z => z.elim (ne _ (by decide)) (ne _ (by decide))), if_pos (show Ob.lft o = Ob.defS from h)]
theorem isForm_thm [DecidableEq Ob] {E : Sp.Env} {o : Ob} (h : Ob.lft o = Ob.thm) : Sp.isForm E o = (Ob.len o == 2 && (E.thmOf (Ob.item o 1)).isSome) := by
  have ne : ∀ s : List Int, Ob.enc s ≠ Ob.enc [116, 104, 109] → Ob.lft o ≠ Ob.sym s := fun s h1 z => Ob.sym_ne h1 (z.symm.trans h)
  unfold Sp.isForm
  rw [if_neg (show ¬ (Ob.lft o = Ob.taut ∨ Ob.lft o = Ob.same) from fun z => z.elim (ne _ (by decide)) (ne _ (by decide))), if_neg (show ¬ Ob.lft o = Ob.value from ne _ (by decide)), if_neg (show ¬ (Ob.lft o = Ob.first ∨ Ob.lft o = Ob.second ∨ Ob.lft o = Ob.pair) from fun z => z.elim (ne _ (by decide)) (fun z => z.elim (ne _ (by decide)) (ne _ (by decide)))), if_neg (show ¬ (Ob.lft o = Ob.yes ∨ Ob.lft o = Ob.no) from fun z => z.elim (ne _ (by decide)) (ne _ (by decide))), if_neg (show ¬ Ob.lft o = Ob.defS from ne _ (by decide)), if_pos (show Ob.lft o = Ob.thm from h)]
theorem isForm_weak [DecidableEq Ob] {E : Sp.Env} {o : Ob} (h : Ob.lft o = Ob.weak) : Sp.isForm E o = (Ob.len o == 3 && Ob.len (Ob.item o 1) != -1 && (Ob.toList (Ob.item o 1)).all (fun x => (Ob.rdT (Sp.arOf E) x).isSome)) := by
  have ne : ∀ s : List Int, Ob.enc s ≠ Ob.enc [119, 101, 97, 107] → Ob.lft o ≠ Ob.sym s := fun s h1 z => Ob.sym_ne h1 (z.symm.trans h)
  unfold Sp.isForm
  rw [if_neg (show ¬ (Ob.lft o = Ob.taut ∨ Ob.lft o = Ob.same) from fun z => z.elim (ne _ (by decide)) (ne _ (by decide))), if_neg (show ¬ Ob.lft o = Ob.value from ne _ (by decide)), if_neg (show ¬ (Ob.lft o = Ob.first ∨ Ob.lft o = Ob.second ∨ Ob.lft o = Ob.pair) from fun z => z.elim (ne _ (by decide)) (fun z => z.elim (ne _ (by decide)) (ne _ (by decide)))), if_neg (show ¬ (Ob.lft o = Ob.yes ∨ Ob.lft o = Ob.no) from fun z => z.elim (ne _ (by decide)) (ne _ (by decide))), if_neg (show ¬ Ob.lft o = Ob.defS from ne _ (by decide)), if_neg (show ¬ Ob.lft o = Ob.thm from ne _ (by decide)), if_pos (show Ob.lft o = Ob.weak from h)]
theorem isForm_cut [DecidableEq Ob] {E : Sp.Env} {o : Ob} (h : Ob.lft o = Ob.cut) : Sp.isForm E o = (Ob.len o == 4 && (Sp.rdAt E o 1).isSome) := by
  have ne : ∀ s : List Int, Ob.enc s ≠ Ob.enc [99, 117, 116] → Ob.lft o ≠ Ob.sym s := fun s h1 z => Ob.sym_ne h1 (z.symm.trans h)
  unfold Sp.isForm
  rw [if_neg (show ¬ (Ob.lft o = Ob.taut ∨ Ob.lft o = Ob.same) from fun z => z.elim (ne _ (by decide)) (ne _ (by decide))), if_neg (show ¬ Ob.lft o = Ob.value from ne _ (by decide)), if_neg (show ¬ (Ob.lft o = Ob.first ∨ Ob.lft o = Ob.second ∨ Ob.lft o = Ob.pair) from fun z => z.elim (ne _ (by decide)) (fun z => z.elim (ne _ (by decide)) (ne _ (by decide)))), if_neg (show ¬ (Ob.lft o = Ob.yes ∨ Ob.lft o = Ob.no) from fun z => z.elim (ne _ (by decide)) (ne _ (by decide))), if_neg (show ¬ Ob.lft o = Ob.defS from ne _ (by decide)), if_neg (show ¬ Ob.lft o = Ob.thm from ne _ (by decide)), if_neg (show ¬ Ob.lft o = Ob.weak from ne _ (by decide)), if_pos (show Ob.lft o = Ob.cut from h)]
theorem isForm_inst [DecidableEq Ob] {E : Sp.Env} {o : Ob} (h : Ob.lft o = Ob.inst) : Sp.isForm E o = (decide (2 ≤ Ob.len o) && (Sp.pairsOf E (Ob.rgt (Ob.rgt o))).isSome) := by
  have ne : ∀ s : List Int, Ob.enc s ≠ Ob.enc [105, 110, 115, 116] → Ob.lft o ≠ Ob.sym s := fun s h1 z => Ob.sym_ne h1 (z.symm.trans h)
  unfold Sp.isForm
  rw [if_neg (show ¬ (Ob.lft o = Ob.taut ∨ Ob.lft o = Ob.same) from fun z => z.elim (ne _ (by decide)) (ne _ (by decide))), if_neg (show ¬ Ob.lft o = Ob.value from ne _ (by decide)), if_neg (show ¬ (Ob.lft o = Ob.first ∨ Ob.lft o = Ob.second ∨ Ob.lft o = Ob.pair) from fun z => z.elim (ne _ (by decide)) (fun z => z.elim (ne _ (by decide)) (ne _ (by decide)))), if_neg (show ¬ (Ob.lft o = Ob.yes ∨ Ob.lft o = Ob.no) from fun z => z.elim (ne _ (by decide)) (ne _ (by decide))), if_neg (show ¬ Ob.lft o = Ob.defS from ne _ (by decide)), if_neg (show ¬ Ob.lft o = Ob.thm from ne _ (by decide)), if_neg (show ¬ Ob.lft o = Ob.weak from ne _ (by decide)), if_neg (show ¬ Ob.lft o = Ob.cut from ne _ (by decide)), if_pos (show Ob.lft o = Ob.inst from h)]
theorem isForm_swap [DecidableEq Ob] {E : Sp.Env} {o : Ob} (h : Ob.lft o = Ob.swap) : Sp.isForm E o = (Ob.len o == 2) := by
  have ne : ∀ s : List Int, Ob.enc s ≠ Ob.enc [115, 119, 97, 112] → Ob.lft o ≠ Ob.sym s := fun s h1 z => Ob.sym_ne h1 (z.symm.trans h)
  unfold Sp.isForm
  rw [if_neg (show ¬ (Ob.lft o = Ob.taut ∨ Ob.lft o = Ob.same) from fun z => z.elim (ne _ (by decide)) (ne _ (by decide))), if_neg (show ¬ Ob.lft o = Ob.value from ne _ (by decide)), if_neg (show ¬ (Ob.lft o = Ob.first ∨ Ob.lft o = Ob.second ∨ Ob.lft o = Ob.pair) from fun z => z.elim (ne _ (by decide)) (fun z => z.elim (ne _ (by decide)) (ne _ (by decide)))), if_neg (show ¬ (Ob.lft o = Ob.yes ∨ Ob.lft o = Ob.no) from fun z => z.elim (ne _ (by decide)) (ne _ (by decide))), if_neg (show ¬ Ob.lft o = Ob.defS from ne _ (by decide)), if_neg (show ¬ Ob.lft o = Ob.thm from ne _ (by decide)), if_neg (show ¬ Ob.lft o = Ob.weak from ne _ (by decide)), if_neg (show ¬ Ob.lft o = Ob.cut from ne _ (by decide)), if_neg (show ¬ Ob.lft o = Ob.inst from ne _ (by decide)), if_pos (show Ob.lft o = Ob.swap from h)]
theorem isForm_put [DecidableEq Ob] {E : Sp.Env} {o : Ob} (h : Ob.lft o = Ob.put) : Sp.isForm E o = (Ob.len o == 3) := by
  have ne : ∀ s : List Int, Ob.enc s ≠ Ob.enc [112, 117, 116] → Ob.lft o ≠ Ob.sym s := fun s h1 z => Ob.sym_ne h1 (z.symm.trans h)
  unfold Sp.isForm
  rw [if_neg (show ¬ (Ob.lft o = Ob.taut ∨ Ob.lft o = Ob.same) from fun z => z.elim (ne _ (by decide)) (ne _ (by decide))), if_neg (show ¬ Ob.lft o = Ob.value from ne _ (by decide)), if_neg (show ¬ (Ob.lft o = Ob.first ∨ Ob.lft o = Ob.second ∨ Ob.lft o = Ob.pair) from fun z => z.elim (ne _ (by decide)) (fun z => z.elim (ne _ (by decide)) (ne _ (by decide)))), if_neg (show ¬ (Ob.lft o = Ob.yes ∨ Ob.lft o = Ob.no) from fun z => z.elim (ne _ (by decide)) (ne _ (by decide))), if_neg (show ¬ Ob.lft o = Ob.defS from ne _ (by decide)), if_neg (show ¬ Ob.lft o = Ob.thm from ne _ (by decide)), if_neg (show ¬ Ob.lft o = Ob.weak from ne _ (by decide)), if_neg (show ¬ Ob.lft o = Ob.cut from ne _ (by decide)), if_neg (show ¬ Ob.lft o = Ob.inst from ne _ (by decide)), if_neg (show ¬ Ob.lft o = Ob.swap from ne _ (by decide)), if_pos (show Ob.lft o = Ob.put from h)]
theorem isForm_induct [DecidableEq Ob] {E : Sp.Env} {o : Ob} (h : Ob.lft o = Ob.induct) : Sp.isForm E o = (decide (3 ≤ Ob.len o) && (Sp.rdAt E o 1).isSome && Sp.indAsk E (Ob.item o 2) == 0 && (match E.dfn (Ob.lft (Ob.item o 2)) with | some D => Ob.len o == 3 + ((Sp.paths D.body).length : Int) | none => false)) := by
  have ne : ∀ s : List Int, Ob.enc s ≠ Ob.enc [105, 110, 100, 117, 99, 116] → Ob.lft o ≠ Ob.sym s := fun s h1 z => Ob.sym_ne h1 (z.symm.trans h)
  unfold Sp.isForm
  rw [if_neg (show ¬ (Ob.lft o = Ob.taut ∨ Ob.lft o = Ob.same) from fun z => z.elim (ne _ (by decide)) (ne _ (by decide))), if_neg (show ¬ Ob.lft o = Ob.value from ne _ (by decide)), if_neg (show ¬ (Ob.lft o = Ob.first ∨ Ob.lft o = Ob.second ∨ Ob.lft o = Ob.pair) from fun z => z.elim (ne _ (by decide)) (fun z => z.elim (ne _ (by decide)) (ne _ (by decide)))), if_neg (show ¬ (Ob.lft o = Ob.yes ∨ Ob.lft o = Ob.no) from fun z => z.elim (ne _ (by decide)) (ne _ (by decide))), if_neg (show ¬ Ob.lft o = Ob.defS from ne _ (by decide)), if_neg (show ¬ Ob.lft o = Ob.thm from ne _ (by decide)), if_neg (show ¬ Ob.lft o = Ob.weak from ne _ (by decide)), if_neg (show ¬ Ob.lft o = Ob.cut from ne _ (by decide)), if_neg (show ¬ Ob.lft o = Ob.inst from ne _ (by decide)), if_neg (show ¬ Ob.lft o = Ob.swap from ne _ (by decide)), if_neg (show ¬ Ob.lft o = Ob.put from ne _ (by decide)), if_pos (show Ob.lft o = Ob.induct from h)]
  rfl
theorem isForm_else [DecidableEq Ob] {E : Sp.Env} {o : Ob} (h0 : ¬ (Ob.lft o = Ob.taut ∨ Ob.lft o = Ob.same)) (h1 : ¬ (Ob.lft o = Ob.value)) (h2 : ¬ (Ob.lft o = Ob.first ∨ Ob.lft o = Ob.second ∨ Ob.lft o = Ob.pair)) (h3 : ¬ (Ob.lft o = Ob.yes ∨ Ob.lft o = Ob.no)) (h4 : ¬ (Ob.lft o = Ob.defS)) (h5 : ¬ (Ob.lft o = Ob.thm)) (h6 : ¬ (Ob.lft o = Ob.weak)) (h7 : ¬ (Ob.lft o = Ob.cut)) (h8 : ¬ (Ob.lft o = Ob.inst)) (h9 : ¬ (Ob.lft o = Ob.swap)) (h10 : ¬ (Ob.lft o = Ob.put)) (h11 : ¬ (Ob.lft o = Ob.induct)) : Sp.isForm E o = false := by
  unfold Sp.isForm
  rw [if_neg h0, if_neg h1, if_neg h2, if_neg h3, if_neg h4, if_neg h5, if_neg h6, if_neg h7, if_neg h8, if_neg h9, if_neg h10, if_neg h11]
def f7Cm (k : Nat) : Bool := decide (k ≤ 11) || decide (60 ≤ k ∧ k ≤ 61) || decide (66 ≤ k ∧ k ≤ 91) || decide (121 ≤ k ∧ k ≤ 131) || decide (k = 140)
theorem f7M_Cm [DecidableEq Ob] : ∀ k, f7Cm k = false → f7M k = false := by
  intro k h
  unfold f7Cm at h
  unfold f7M fI
  simp only [Bool.or_eq_false_iff, decide_eq_false_iff_not] at h ⊢
  omega
theorem f7E_Cm [DecidableEq Ob] : ∀ k, f7Cm k = false → f7E k = false := by
  intro k h
  unfold f7Cm at h
  unfold f7E
  simp only [Bool.or_eq_false_iff, decide_eq_false_iff_not] at h ⊢
  omega
theorem f7H_Cm [DecidableEq Ob] : ∀ k, f7Cm k = false → f7H k = false := by
  intro k h
  unfold f7Cm at h
  unfold f7H f7M fI
  simp only [Bool.or_eq_false_iff, decide_eq_false_iff_not] at h ⊢
  omega
theorem f7I_Cm [DecidableEq Ob] : ∀ k, f7Cm k = false → f7I k = false := by
  intro k h
  unfold f7Cm at h
  unfold f7I f7M fI
  simp only [Bool.or_eq_false_iff, decide_eq_false_iff_not] at h ⊢
  omega
theorem f7Cm_K [DecidableEq Ob] : ∀ k, f7K k = false → f7Cm k = false := by
  intro k h
  have := f7K_in h
  unfold f7Cm
  simp only [Bool.or_eq_false_iff, decide_eq_false_iff_not]
  omega
/-- what looking at a form leaves -/
def CkK [DecidableEq Ob] (u v : iST) : Prop := GZ f7Cm u v ∧ v.1 60 = u.1 60 ∧ v.1 61 = u.1 61 ∧ v.1 71 = u.1 71
theorem CkK.rf [DecidableEq Ob] {u : iST} (hT : TI u) (hU : TU u) : CkK u u := ⟨GZ.rf hT hU, rfl, rfl, rfl⟩
theorem CkK.tr [DecidableEq Ob] {u v w : iST} (h : CkK u v) (g : CkK v w) : CkK u w := ⟨h.1.tr g.1, g.2.1.trans h.2.1, g.2.2.1.trans h.2.2.1, g.2.2.2.trans h.2.2.2⟩
theorem GM.ck [DecidableEq Ob] {u v : iST} (h : GM u v) (h61 : v.1 61 = u.1 61) : CkK u v := ⟨h.1.mono f7M_Cm, (h.1.2.2.2.2 60 (by decide)).1, h61, h.2.1⟩
theorem indAsk_0 [DecidableEq Ob] {E : Sp.Env} {c : Ob} : Sp.indAsk E c = 0 ↔ (1 ≤ Ob.len c ∧ Ob.isName (Ob.lft c) = true ∧ Sp.areVars (Ob.toList (Ob.rgt c)) = true) ∧ ∃ D, E.dfn (Ob.lft c) = some D ∧ D.meas.isSome = true ∧ (D.params.length : Int) = Ob.len (Ob.rgt c) := by
  unfold Sp.indAsk
  constructor
  · intro h
    split at h
    · next hc =>
      cases e : E.dfn (Ob.lft c) with
      | none => rw [e] at h; cases h
      | some D =>
        rw [e] at h
        have h : (if D.meas.isSome = true ∧ (D.params.length : Int) = Ob.len (Ob.rgt c) then (0 : Int) else 2) = 0 := h
        split at h
        · next hd => exact ⟨hc, D, rfl, hd.1, hd.2⟩
        · cases h
    · cases h
  · intro ⟨hc, D, e, h1, h2⟩
    rw [if_pos hc, e]
    show (if D.meas.isSome = true ∧ (D.params.length : Int) = Ob.len (Ob.rgt c) then (0 : Int) else 2) = 0
    rw [if_pos ⟨h1, h2⟩]
theorem p_isInduction [DecidableEq Ob] {a : Int} {Q : Int → iST → Prop} {u : iST} {H : Sp.Hs} (hX : HX u H []) (h71 : 0 ≤ u.1 71) (h61 : u.1 61 = 0) (a0 : 0 ≤ a) (a1 : a < u.1 8) (hw : Ob.lenA (ob u a)) (hlft : Ob.lft (ob u a) = Ob.induct)
    (hq : ∀ r v, CkK u v → bq r (Sp.isForm (H.env []) (ob u a)) → Q r v) : pw_isInduction a Q u := by
  have hT := hX.1
  have hU := hX.2.1
  obtain ⟨hD, h57, hW, hTk⟩ := hX.2.2.1
  rw [isForm_induct hlft] at hq
  have spec : (decide (3 ≤ Ob.len (ob u a)) && (Sp.rdAt (H.env []) (ob u a) 1).isSome && Sp.indAsk (H.env []) (Ob.item (ob u a) 2) == 0 && (match Sp.Env.dfn (H.env []) (Ob.lft (Ob.item (ob u a) 2)) with | some D => Ob.len (ob u a) == 3 + ((Sp.paths D.body).length : Int) | none => false)) = true ↔ 3 ≤ Ob.len (ob u a) ∧ (Sp.rdAt (H.env []) (ob u a) 1).isSome = true ∧ Sp.indAsk (H.env []) (Ob.item (ob u a) 2) = 0 ∧ ∃ D, Sp.Env.dfn (H.env []) (Ob.lft (Ob.item (ob u a) 2)) = some D ∧ Ob.len (ob u a) = 3 + ((Sp.paths D.body).length : Int) := by
    rw [Bool.and_eq_true, Bool.and_eq_true, Bool.and_eq_true, decide_eq_true_eq, beq_iff_eq]
    constructor
    · intro ⟨⟨⟨h1, h2⟩, h3⟩, h4⟩
      refine ⟨h1, h2, h3, ?_⟩
      cases e : Sp.Env.dfn (H.env []) (Ob.lft (Ob.item (ob u a) 2)) with
      | none => rw [e] at h4; cases h4
      | some D => rw [e] at h4; exact ⟨D, rfl, beq_iff_eq.mp h4⟩
    · intro ⟨h1, h2, h3, D, e, h4⟩
      refine ⟨⟨⟨h1, h2⟩, h3⟩, ?_⟩
      rw [e]; exact beq_iff_eq.mpr h4
  generalize (decide (3 ≤ Ob.len (ob u a)) && (Sp.rdAt (H.env []) (ob u a) 1).isSome && Sp.indAsk (H.env []) (Ob.item (ob u a) 2) == 0 && (match Sp.Env.dfn (H.env []) (Ob.lft (Ob.item (ob u a) 2)) with | some D => Ob.len (ob u a) == 3 + ((Sp.paths D.body).length : Int) | none => false)) = B at hq spec
  have no : ∀ v, CkK u v → ¬ (3 ≤ Ob.len (ob u a) ∧ (Sp.rdAt (H.env []) (ob u a) 1).isSome = true ∧ Sp.indAsk (H.env []) (Ob.item (ob u a) 2) = 0 ∧ ∃ D, Sp.Env.dfn (H.env []) (Ob.lft (Ob.item (ob u a) 2)) = some D ∧ Ob.len (ob u a) = 3 + ((Sp.paths D.body).length : Int)) → Q 0 v := fun v kv hn => hq 0 v kv (bq0 (by
    cases e : B with
    | false => rfl
    | true => exact absurd (spec.mp e) hn))
  unfold pw_isInduction
  refine p_lengthOf hT hU a0 a1 ⟨fun hl _ => no u (CkK.rf hT hU) (fun z => by omega), fun hl => ?_⟩
  refine p_nthL hT a0 a1 (by decide) (by omega) (fun x x0 x1 ex => ?_)
  have ex : ob u x = Ob.item (ob u a) 1 := ex
  refine p_termE (E := H.env []) hT hU hD h57 x0 x1 h71 (fun f w gw w61 hf => ?_)
  rw [ex] at hf
  have hf : (Sp.rdAt (H.env []) (ob u a) 1 = none ∧ f = -1) ∨ (Nd w (H.env []) f ∧ (ob w f).sz ≤ 120 ∧ Sp.rdAt (H.env []) (ob u a) 1 = some (ob w f)) := hf
  have kw := gw.ck w61
  refine ⟨fun hfz => ?_, fun hfz _ => no w kw (fun z => ?_)⟩
  rotate_left
  · rcases hf with ⟨q, _⟩ | ⟨q, _⟩
    · have := z.2.1; rw [q] at this; cases this
    · have := q.1; have := Decidable.not_not.mp hfz; omega
  obtain ⟨nf, zf, ef⟩ := hf.resolve_left (fun q => hfz q.2)
  have hXw := hX.keep (kw.1.mono f7Cm_K)
  have hTw := hXw.1
  have hUw := hXw.2.1
  have hle := gw.le
  have ewa : ob w a = ob u a := gw.ob hT a0 a1
  refine p_nthL hTw a0 (by omega) (by decide) (by rw [ewa]; omega) (fun c c0 c1 ec => ?_)
  rw [ewa] at ec
  have ec : ob w c = Ob.item (ob u a) 2 := ec
  have nol : ∀ v, CkK u v → Sp.indAsk (H.env []) (Ob.item (ob u a) 2) ≠ 0 → Q 0 v := fun v kv hn => no v kv (fun z => hn z.2.2.1)
  refine p_isPair hTw c0 c1 (fun b hb => ⟨fun hz _ => nol w kw (fun z => ?_), fun hz => ?_⟩)
  · have := len_isPr (indAsk_0.mp z).1.1
    rw [← ec, hb.f hz] at this; cases this
  have hpr : (Ob.item (ob u a) 2).isPr = true := by rw [← ec]; exact hb.t hz
  obtain ⟨f0, f1, r0, r1, efl, er, _⟩ := ob_lft hTw c0 c1 (by rw [ec]; exact hpr)
  rw [ec] at efl er
  intro _ _ y ey _
  rw [ey]
  refine p_isNewName hTw hUw f0 (by omega) (fun b2 hb2 => ⟨fun hz2 _ => nol w kw (fun z => ?_), fun hz2 => ?_⟩)
  · have := (indAsk_0.mp z).1.2.1
    rw [efl, hb2.f hz2] at this; cases this
  have hnm : Ob.isName (Ob.lft (Ob.item (ob u a) 2)) = true := by rw [efl]; exact hb2.t hz2
  intro _ _ y2 ey2 _
  rw [ey2]
  refine p_areVariables hTw hUw r0 (by omega) (fun b3 hb3 => ?_)
  rw [← er] at hb3
  have hle1000 : (Ob.rgt (Ob.item (ob u a) 2)).len ≤ 1000 := lenA_len (lenA_rgt (lenA_item _ 2 hw))
  refine ⟨fun hz3 => ?_, fun hz3 _ => nol w kw (fun z => ?_)⟩
  rotate_left
  · have hi := (indAsk_0.mp z).1
    have h0 := hb3.f (Decidable.not_not.mp hz3)
    rw [decide_eq_true ((len_rgt hpr).mp hi.1), decide_eq_true hle1000, hi.2.2] at h0
    cases h0
  have h3 := hb3.t hz3
  rw [Bool.and_eq_true, Bool.and_eq_true, decide_eq_true_eq, decide_eq_true_eq] at h3
  have hform : 1 ≤ Ob.len (Ob.item (ob u a) 2) ∧ Ob.isName (Ob.lft (Ob.item (ob u a) 2)) = true ∧ Sp.areVars (Ob.toList (Ob.rgt (Ob.item (ob u a) 2))) = true := ⟨(len_rgt hpr).mpr h3.1.1, hnm, h3.2⟩
  intro _ _ y3 ey3 _
  rw [ey3]
  refine p_definition hTw hUw hXw.2.2.1.1 f0 (by omega) (fun hdn => ⟨fun _ _ => nol w kw (fun z => ?_), fun z => absurd rfl z⟩) (fun d d0 d1 ed hds => ⟨fun z => by omega, fun _ => ?_⟩)
  · obtain ⟨D, e, _⟩ := (indAsk_0.mp z).2
    rw [efl, hdn] at e; cases e
  rw [← efl] at hds
  have hd1 := hXw.2.2.1.1.2.2 d d0 d1
  have lp : ((dfn1 w d).params.length : Int) = w.2.1 37 d := by
    have := hd1.2.1.1
    show ((prm w d).length : Int) = _
    unfold prm; simp; omega
  have hmeas : (dfn1 w d).meas.isSome = true ↔ w.2.1 41 d ≠ 0 := by
    show (if w.2.1 41 d ≠ 0 then some (ob w (w.2.1 40 d)) else none).isSome = true ↔ _
    split
    · next q => exact ⟨fun _ => q, fun _ => rfl⟩
    · next q => exact ⟨fun z => (by cases z), fun z => absurd z q⟩
  intro _ _ y4 ey4 _
  rw [ey4]
  refine ⟨fun hz4 _ => nol w kw (fun z => ?_), fun hz4 => ?_⟩
  · obtain ⟨D, e, h1, _⟩ := (indAsk_0.mp z).2
    rw [hds] at e
    rw [← Option.some.inj e] at h1
    exact hmeas.mp h1 hz4
  intro _ _ y5 ey5 _
  rw [ey5]
  refine p_lengthOf hTw hUw r0 (by omega) ?_
  rw [← er]
  intro _ _ y6 ey6 _
  rw [ey6]
  refine ⟨fun hz5 => ?_, fun hz5 _ => nol w kw (fun z => ?_)⟩
  rotate_left
  · obtain ⟨D, e, _, h2⟩ := (indAsk_0.mp z).2
    rw [hds] at e
    rw [← Option.some.inj e, lp] at h2
    exact hz5 h2.symm
  have hind : Sp.indAsk (H.env []) (Ob.item (ob u a) 2) = 0 := indAsk_0.mpr ⟨hform, dfn1 w d, hds, hmeas.mpr hz4, by rw [lp]; exact hz5.symm⟩
  intro _ _ y7 ey7 _
  rw [ey7]
  have hmem : dfn1 w d ∈ H.1 := (dfn_mem hds).1
  obtain ⟨_, _, ⟨wB, zB, _⟩, _⟩ := (HOk.wf hX.2.2.2.2.1).1 _ hmem
  refine p_pathsOf (E := H.env []) hTw hUw ⟨hd1.2.2.1.1, hd1.2.2.1.2.1, hd1.2.2.1.2.2, wB⟩ zB (by rw [gw.2.1]; exact h71) (by rw [w61]; exact h61) (fun v gv v71 v61 pv ev => ?_)
  have kv : CkK u v := kw.tr ⟨gv.mono f7H_Cm, (gv.2.2.2.2 60 (by decide)).1, by rw [v61, w61, h61], v71⟩
  have plen : ((Sp.paths (dfn1 w d).body).length : Int) = v.1 126 := by
    have := congrArg List.length ev
    unfold pthL pth at this
    simp at this
    have h0 := pv.1
    show ((Sp.paths (ob w (w.2.1 39 d))).length : Int) = _
    omega
  intro y8 ey8 _ _
  rw [ey8]
  refine ⟨fun hz6 _ => no v kv (fun z => ?_), fun hz6 _ => hq 1 v kv (bq1 (spec.mpr ⟨by omega, by rw [ef]; rfl, hind, dfn1 w d, hds, by rw [plen]; exact Decidable.not_not.mp hz6⟩))⟩
  obtain ⟨D, e, h4⟩ := z.2.2.2
  rw [hds] at e
  rw [← Option.some.inj e, plen] at h4
  exact hz6 h4
