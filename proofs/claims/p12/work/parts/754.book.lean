-- deps: 753
/-! the class: theorems by name; rules that are muted -/
theorem pc_theoremOf [DecidableEq Ob] {f : Int} {Q : Int → iST → Prop} {u : iST} {E : Sp.Env} (hT : CT u) (hE : TOc u E) (hf : VN u f) (hn : E.thmOf (oc u f) = none → Q (-1) u) (hs : ∀ (r : Nat) (k : Sp.Thm), (r : Int) < u.1 1 → E.thms[r]? = some k → u.2.1 5 (r : Int) = f → E.thmOf (oc u f) = some k → Q (r : Int) u) : pv_0_theoremOf f Q u := by
  have nm : ∀ (r : Nat), (r : Int) < u.1 1 → ∃ k, E.thms[r]? = some k ∧ (k.name = oc u f ↔ u.2.1 5 (r : Int) = f) := by
    intro r hr
    obtain ⟨a, ⟨k, e, h⟩, _⟩ := hE.2 r hr
    refine ⟨k, e, ?_⟩
    rw [h.1]
    exact hT.1.inj a.1.1 a.1.2 hf.1 hf.2
  unfold pv_0_theoremOf
  refine pv_0_theoremOf_2_i (fun x1 x2 y => x1 = f ∧ y = u ∧ 0 ≤ x2 ∧ ∀ j, 0 ≤ j → j < x2 → j < u.1 1 → u.2.1 5 j ≠ f) ?_ ⟨rfl, rfl, Int.le_refl _, fun j h1 h2 => by omega⟩
  rintro x1 x2 y ⟨b1, b2, i0, hi⟩
  rw [b1, b2]
  unfold pv_0_theoremOf_2b
  intro n1 en1 _
  rw [en1]
  refine ⟨fun z => hn ?_, fun z => ?_⟩
  · unfold Sp.Env.thmOf
    rw [List.find?_eq_none]
    intro k hk
    obtain ⟨r, hr, e⟩ := List.getElem_of_mem hk
    have hr1 : (r : Int) < u.1 1 := by rw [← hE.1]; omega
    obtain ⟨k', e', h'⟩ := nm r hr1
    rw [List.getElem?_eq_getElem hr, e] at e'
    have e' := Option.some.inj e'
    simp only [decide_eq_true_eq]
    intro q
    rw [e'] at q
    exact hi (r : Int) (by omega) (by omega) hr1 (h'.mp q)
  intro _ _ n2 en2 _
  rw [en2]
  refine ⟨fun q _ => ⟨rfl, rfl, by omega, fun j h1 h2 h3 => ?_⟩, fun q => ?_⟩
  · by_cases c : j = x2
    · rw [c]; exact q
    · exact hi j h1 (by omega) h3
  · have q := Decidable.not_not.mp q
    obtain ⟨r, er⟩ : ∃ r : Nat, x2 = (r : Int) := ⟨x2.toNat, by omega⟩
    rw [er] at q z hi ⊢
    obtain ⟨k, ek, hk⟩ := nm r (by omega)
    refine hs r k (by omega) ek q ?_
    unfold Sp.Env.thmOf
    obtain ⟨hl, e⟩ := List.getElem?_eq_some_iff.mp ek
    rw [List.find?_eq_some_iff_getElem]
    refine ⟨decide_eq_true (hk.mpr q), r, hl, e, fun j hj => ?_⟩
    obtain ⟨k', e', h'⟩ := nm j (by omega)
    have hjl : j < E.thms.length := by omega
    rw [List.getElem?_eq_getElem hjl] at e'
    rw [Option.some.inj e', decide_eq_false (fun q2 => hi (j : Int) (by omega) (by omega) (by omega) (h'.mp q2))]
    rfl
theorem pc_muteNone [DecidableEq Ob] {Q : iST → Prop} {u : iST} (hT : CT u) (hq : ∀ v, CG f80 (fun k => decide (k = 13)) u v → v.1 = u.1 → (∀ k, k ≠ 13 → v.2.1 k = u.2.1 k) → v.2.2 = u.2.2 → (∀ j, 0 ≤ j → j < 60 → v.2.1 13 j = 0) → Q v) : pv_0_muteNone Q u := by
  unfold pv_0_muteNone
  refine pv_0_muteNone_2_i (fun x1 y => 0 ≤ x1 ∧ CG f80 (fun k => decide (k = 13)) u y ∧ y.1 = u.1 ∧ (∀ k, k ≠ 13 → y.2.1 k = u.2.1 k) ∧ y.2.2 = u.2.2 ∧ ∀ j, 0 ≤ j → j < x1 → j < 60 → y.2.1 13 j = 0) ?_ ⟨Int.le_refl _, CG.rf hT, rfl, fun _ _ => rfl, rfl, fun j h1 h2 => by omega⟩
  rintro x1 y ⟨i0, gy, yn, yr, yc, hj⟩
  unfold pv_0_muteNone_2b
  refine ⟨fun z => hq y gy yn yr yc (fun j h1 h2 => hj j h1 (by omega) h2), fun z => ?_⟩
  intro _ _ _ y1 e1 _
  have g1 : CG f80 (fun k => decide (k = 13)) y y1 := by rw [e1]; exact CG_A gy.1 (by omega) (by decide)
  have r13 : ∀ j, y1.2.1 13 j = if j = x1 then 0 else y.2.1 13 j := fun j => by rw [e1]; rfl
  refine ⟨by omega, gy.tr g1, by rw [e1]; exact yn, fun k hk => by rw [e1, iAc_ne _ _ _ hk]; exact yr k hk, by rw [e1]; exact yc, fun j h1 h2 h3 => ?_⟩
  rw [r13]
  by_cases c : j = x1
  · rw [if_pos c]
  · rw [if_neg c]; exact hj j h1 (by omega) h3
