-- deps: 500
/-! the reference, partial: variables, calls that are found -/
def f7A (k : Nat) : Bool := decide (75 ≤ k ∧ k ≤ 78)
theorem f7W_A [DecidableEq Ob] : ∀ k, f7A k = false → f7W k = false := by
  intro k h
  unfold f7A at h
  unfold f7W
  simp only [decide_eq_false_iff_not] at h ⊢
  omega
/-- the variables that were found -/
def VrS [DecidableEq Ob] (v : iST) (P : Ob → Prop) : Prop := 0 ≤ v.1 78 ∧ (∀ i, 0 ≤ i → i < v.1 78 → 0 ≤ v.2.1 77 i ∧ v.2.1 77 i < v.1 8) ∧ ∀ x, P x ↔ ∃ i, 0 ≤ i ∧ i < v.1 78 ∧ ob v (v.2.1 77 i) = x
theorem VrS.mono [DecidableEq Ob] {v w : iST} {P : Ob → Prop} (h : VrS v P) (hT : TI v) (hG : GZ f7W v w) : VrS w P := by
  have e78 := (hG.2.2.2.2 78 (by decide)).1
  have e77 := (hG.2.2.2.2 77 (by decide)).2
  have hl := hG.le
  refine ⟨by rw [e78]; exact h.1, fun i i0 i1 => ?_, fun x => (h.2.2 x).trans ⟨fun ⟨i, i0, i1, ei⟩ => ⟨i, i0, by rw [e78]; exact i1, ?_⟩, fun ⟨i, i0, i1, ei⟩ => ⟨i, i0, by rw [e78] at i1; exact i1, ?_⟩⟩⟩
  · rw [e78] at i1
    rw [e77]
    have := h.2.1 i i0 i1
    exact ⟨this.1, by omega⟩
  · have := h.2.1 i i0 i1
    rw [e77, hG.ob hT this.1 this.2]
    exact ei
  · rw [e78] at i1
    have := h.2.1 i i0 i1
    rw [e77, hG.ob hT this.1 this.2] at ei
    exact ei
theorem p_variablesOf [DecidableEq Ob] {a : Int} {Q : iST → Prop} {u : iST} {ar : Ob → Int} (hT : TI u) (hU : TU u) (na : NdA u ar a) (hq : ∀ v, GZ f7A u v → VrS v (fun x => x ∈ Ob.parts (ob u a) ∧ x.isVar = true) → Q v) : pw_variablesOf a Q u := by
  unfold pw_variablesOf
  intro w ew
  have gw : GZ f7A u w := by
    rw [ew]
    exact GZ_eq (GZ.rf hT hU) (fun k hk => ⟨if_neg (by omega), rfl⟩) rfl (Fx_I (by decide))
  have w78 : w.1 78 = 0 := by rw [ew]; rfl
  clear ew
  obtain ⟨nw, eo⟩ := na.mono hT gw
  intro w' ew'
  refine p_walk0 gw.1 gw.2.1 nw (fun v gv wv tv => ?_) ew'
  rw [eo] at tv
  have v78 : v.1 78 = 0 := ((gv.2.2.2.2 78 (by decide)).1).trans w78
  refine pw_variablesOf_15_i (fun v => GZ f7A u v ∧ WkO v ar ∧ ∃ done, Ob.parts (ob u a) = done ++ todo v ∧ VrS v (fun x => x ∈ done ∧ x.isVar = true)) ?_ ⟨gw.tr (gv.mono f7W_A), wv, [], by rw [tv]; rfl, by omega, fun i i0 i1 => by omega, fun x => ⟨fun h => (by cases h.1), fun ⟨i, i0, i1, _⟩ => by omega⟩⟩
  intro v hI
  obtain ⟨gv, wv, done, hd, hV⟩ := hI
  unfold pw_variablesOf_15b
  intro y ey _
  refine ⟨fun hc => hq v gv ?_, fun hc => ?_⟩
  · rw [todo_nil (by omega), List.append_nil] at hd
    rw [hd]; exact hV
  · refine p_walkOn gv.1 gv.2.1 wv (by omega) (fun k t gt wt nk et => ?_)
    have gut := gv.tr (gt.mono f7W_A)
    have hVt := hV.mono gv.1 gt
    rw [et] at hd
    refine p_isVariable gt.1 gt.2.1 nk.1 nk.2.1 (fun r hr => ?_)
    have t78 := hVt.1
    refine pw_variablesOf_36_i (fun x2 x3 x4 v => v = t ∧ x2 = k ∧ 0 ≤ x4 ∧ (x3 = 0 ↔ (ob t k).isVar = false ∨ ∃ i, 0 ≤ i ∧ i < x4 ∧ i < t.1 78 ∧ t.2.1 77 i = k)) ?_ ⟨rfl, rfl, by omega, by
      constructor
      · intro z; exact Or.inl (hr.f z)
      · rintro (z | ⟨i, i0, i1, _⟩)
        · exact hr.mpr z
        · omega⟩
    intro x2 x3 x4 v' hI
    obtain ⟨e1, e2, i4, h3⟩ := hI
    rw [e1, e2]
    have done' : (x4 ≥ t.1 78 ∨ x3 = 0) → pw_variablesOf_72 (fun v => GZ f7A u v ∧ WkO v ar ∧ ∃ done, Ob.parts (ob u a) = done ++ todo v ∧ VrS v (fun x => x ∈ done ∧ x.isVar = true)) Q k x3 t := by
      intro hfin
      unfold pw_variablesOf_72
      refine ⟨fun hn => ?_, fun hn => ⟨gut, wt, done ++ [ob t k], by rw [List.append_assoc]; exact hd, hVt.1, hVt.2.1, fun x => ?_⟩⟩
      · have hx4 : x4 ≥ t.1 78 := hfin.resolve_right hn
        have hv : (ob t k).isVar = true := by
          cases e : (ob t k).isVar with
          | true => rfl
          | false => exact absurd (h3.mpr (Or.inl e)) hn
        intro z ez _ _ _ t1 et1 z2 ez2 _ _ t2 et2
        have ez2' : z2 = t.1 78 := by rw [ez2, et1]; rfl
        rw [ez2'] at et2
        rw [ez] at et1
        have g2 : GZ f7A t t2 := by
          rw [et2, et1]
          exact GZ_eq (GZ.rf gt.1 gt.2.1) (fun k hk => ⟨if_neg (by omega), if_neg (by omega)⟩) rfl ((Fx_A (by decide)).tr (Fx_I (by decide)))
        have n78 : t2.1 78 = t.1 78 + 1 := by rw [et2]; rfl
        have n77 : ∀ i, t2.2.1 77 i = if i = t.1 78 then k else t.2.1 77 i := fun i => by rw [et2, et1]; rfl
        have n76 : t2.1 76 = t.1 76 := by rw [et2, et1]; rfl
        have n75 : t2.2.1 75 = t.2.1 75 := by rw [et2, et1]; rfl
        clear et1 et2 ez ez2
        have hl := g2.le
        have wt2 : WkO t2 ar := ⟨by rw [n76]; exact wt.1, fun i i0 i1 => by rw [n76] at i1; rw [n75]; exact ((wt.2 i i0 i1).mono gt.1 g2).1⟩
        have st2 : todo t2 = todo t := by
          unfold todo stk
          rw [n76]
          refine congrArg _ (rvl_congr _ (fun i hi => ?_))
          show ob t2 (t2.2.1 75 (i : Int)) = ob t (t.2.1 75 (i : Int))
          have := wt.1
          rw [n75, ((wt.2 (i : Int) (by omega) (by omega)).mono gt.1 g2).2]
        refine ⟨gut.tr g2, wt2, done ++ [ob t k], by rw [st2, List.append_assoc]; exact hd, by omega, fun i i0 i1 => ?_, fun x => ⟨fun hx => ?_, fun ⟨i, i0, i1, ei⟩ => ?_⟩⟩
        · rw [n77]
          have := nk.1
          have := nk.2.1
          by_cases c : i = t.1 78
          · rw [if_pos c]; exact ⟨by omega, by omega⟩
          · rw [if_neg c]
            have := hVt.2.1 i i0 (by omega)
            exact ⟨this.1, by omega⟩
        · rcases List.mem_append.mp hx.1 with h | h
          · obtain ⟨i, i0, i1, ei⟩ := (hVt.2.2 x).mp ⟨h, hx.2⟩
            refine ⟨i, i0, by omega, ?_⟩
            have := hVt.2.1 i i0 i1
            rw [n77, if_neg (by omega), g2.ob gt.1 this.1 this.2]
            exact ei
          · refine ⟨t.1 78, t78, by omega, ?_⟩
            rw [n77, if_pos rfl, g2.ob gt.1 nk.1 nk.2.1]
            exact (List.mem_singleton.mp h).symm
        · rw [n77] at ei
          by_cases c : i = t.1 78
          · rw [if_pos c, g2.ob gt.1 nk.1 nk.2.1] at ei
            rw [← ei]
            exact ⟨List.mem_append.mpr (Or.inr (List.mem_singleton.mpr rfl)), hv⟩
          · have := hVt.2.1 i i0 (by omega)
            rw [if_neg c, g2.ob gt.1 this.1 this.2] at ei
            have := (hVt.2.2 x).mpr ⟨i, i0, by omega, ei⟩
            exact ⟨List.mem_append.mpr (Or.inl this.1), this.2⟩
      · rw [← hVt.2.2 x]
        have h0 : x3 = 0 := Decidable.not_not.mp hn
        refine ⟨fun hx => ?_, fun hx => ⟨List.mem_append.mpr (Or.inl hx.1), hx.2⟩⟩
        rcases List.mem_append.mp hx.1 with h | h
        · exact ⟨h, hx.2⟩
        · have ex := List.mem_singleton.mp h
          rcases h3.mp h0 with z | ⟨i, i0, _, i2, ei⟩
          · rw [ex, z] at hx
            exact absurd hx.2 (by decide)
          · exact (hVt.2.2 x).mpr ⟨i, i0, i2, by rw [ei, ex]⟩
    unfold pw_variablesOf_36b
    intro z ez _
    refine ⟨fun hd' => done' (Or.inl (by omega)), fun hd' => ⟨fun he => done' (Or.inr he), fun he => ?_⟩⟩
    intro _ _ z2 ez2 _
    have key : ∀ i, 0 ≤ i → i < x4 → i < t.1 78 → t.2.1 77 i ≠ k := fun i i0 i1 i2 z => he (h3.mpr (Or.inr ⟨i, i0, i1, i2, z⟩))
    have hv : (ob t k).isVar = true := by
      cases e : (ob t k).isVar with
      | true => rfl
      | false => exact absurd (h3.mpr (Or.inl e)) he
    refine ⟨fun hf _ => ⟨rfl, rfl, by omega, ⟨fun _ => Or.inr ⟨x4, i4, by omega, by omega, by rw [← ez2]; exact hf⟩, fun _ => rfl⟩⟩, fun hf _ => ⟨rfl, rfl, by omega, ⟨fun z => absurd z (by decide), ?_⟩⟩⟩
    rintro (z | ⟨i, i0, i1, i2, z⟩)
    · rw [hv] at z; exact absurd z (by decide)
    · by_cases c : i = x4
      · rw [c, ← ez2] at z; exact absurd z hf
      · exact absurd z (key i i0 (by omega) i2)
theorem p_isIn [DecidableEq Ob] {a x : Int} {Q : Int → iST → Prop} {u : iST} (hT : TI u) (hU : TU u) (a0 : 0 ≤ a) (a1 : a < u.1 8) (hl : (ob u a).len ≠ -1) (x0 : 0 ≤ x) (x1 : x < u.1 8) (h : ∀ r, bq r (Ob.has (Ob.toList (ob u a)) (ob u x)) → Q r u) : pw_isIn a x Q u := by
  unfold pw_isIn
  refine pw_isIn_2_i (fun x2 x3 v => v = u ∧ x2 = x ∧ 0 ≤ x3 ∧ x3 < u.1 8 ∧ (ob u x3).len ≠ -1 ∧ Ob.has (Ob.toList (ob u a)) (ob u x) = Ob.has (Ob.toList (ob u x3)) (ob u x)) ?_ ⟨rfl, rfl, a0, a1, hl, rfl⟩
  intro x2 x3 v hI
  obtain ⟨e1, e2, i0, i1, i2, i3⟩ := hI
  rw [e1, e2]
  unfold pw_isIn_2b
  have hnil := kat hT hU 0 (by decide) (by decide) rfl i0 i1
  refine ⟨fun hc _ => h 0 (bq0 ?_), fun hc => ?_⟩
  · rw [i3, hnil.mp hc]; rfl
  · have hp : (ob u x3).isPr = true := by
      cases e : ob u x3 with
      | op p q => rfl
      | var z =>
        rw [e, Ob.len_var] at i2
        by_cases c : .var z = Ob.nil
        · exact absurd (hnil.mpr (e.trans c)) hc
        · rw [if_neg c] at i2; exact absurd rfl i2
    obtain ⟨p1, p2, q1, q2, _, _, e⟩ := ob_lft hT i0 i1 hp
    intro _ _ y ey _
    rw [e] at i3
    have i3 : Ob.has (Ob.toList (ob u a)) (ob u x) = (decide (ob u (u.2.1 0 x3) = ob u x) || Ob.has (Ob.toList (ob u (u.2.1 1 x3))) (ob u x)) := i3
    have ei := hT.inj hU p1 (show u.2.1 0 x3 < u.1 8 by omega) x0 x1
    rw [ey]
    refine ⟨fun hd => ?_, fun hd _ => h 1 (bq1 ?_)⟩
    · intro _ _ z ez _
      rw [ez]
      refine ⟨rfl, rfl, q1, by omega, ?_, ?_⟩
      · rw [e, Ob.len_pr] at i2
        intro z
        rw [z] at i2
        exact i2 (if_pos rfl)
      · rw [i3, decide_eq_false (fun z => hd (ei.mp z))]; rfl
    · rw [i3, decide_eq_true (ei.mpr (Decidable.not_not.mp hd))]; rfl
theorem p_hasOnly [DecidableEq Ob] {a l : Int} {Q : Int → iST → Prop} {u : iST} {ar : Ob → Int} (hT : TI u) (hU : TU u) (na : NdA u ar a) (l0 : 0 ≤ l) (l1 : l < u.1 8) (hl : (ob u l).len ≠ -1) (hq : ∀ r v, GZ f7A u v → bq r ((Ob.parts (ob u a)).all (fun x => !Ob.isVar x || Ob.has (Ob.toList (ob u l)) x)) → Q r v) : pw_hasOnly a l Q u := by
  unfold pw_hasOnly
  refine p_variablesOf hT hU na (fun v gv hV => ?_)
  have el := gv.ob hT l0 l1
  have hle := gv.le
  refine pw_hasOnly_7_i (fun x2 x3 w => w = v ∧ x2 = l ∧ 0 ≤ x3 ∧ ∀ i, 0 ≤ i → i < x3 → i < v.1 78 → Ob.has (Ob.toList (ob u l)) (ob v (v.2.1 77 i)) = true) ?_ ⟨rfl, rfl, by omega, fun i i0 i1 => by omega⟩
  intro x2 x3 w hI
  obtain ⟨e1, e2, i0, hi⟩ := hI
  rw [e1, e2]
  unfold pw_hasOnly_7b
  intro y ey _
  refine ⟨fun hc _ => hq 1 v gv (bq1 ?_), fun hc => ?_⟩
  · rw [List.all_eq_true]
    intro x hx
    cases ex : Ob.isVar x with
    | false => rfl
    | true =>
      obtain ⟨i, j0, j1, ei⟩ := (hV.2.2 x).mp ⟨hx, ex⟩
      have := hi i j0 (by omega) j1
      rw [ei] at this
      rw [this]; rfl
  · intro _ _ z ez _
    have hz := hV.2.1 x3 i0 (by omega)
    rw [← ez] at hz
    refine p_isIn gv.1 gv.2.1 l0 (by omega) (by rw [el]; exact hl) hz.1 hz.2 (fun r hr => ?_)
    rw [el] at hr
    refine ⟨fun hd _ => ⟨rfl, rfl, by omega, fun i j0 j1 j2 => ?_⟩, fun hd _ => hq 0 v gv (bq0 ?_)⟩
    · by_cases c : i = x3
      · rw [c, ← ez]; exact hr.t hd
      · exact hi i j0 (by omega) j2
    · rw [List.all_eq_false]
      obtain ⟨h1, h2⟩ := (hV.2.2 (ob v z)).mpr ⟨x3, i0, by omega, by rw [← ez]⟩
      refine ⟨ob v z, h1, ?_⟩
      rw [h2, hr.f (Decidable.not_not.mp hd)]
      decide
