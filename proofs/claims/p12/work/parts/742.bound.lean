-- deps: 741
/-! the class: what is bound -/
theorem pc_isBoundToVariables [DecidableEq Ob] {Q : Int → iST → Prop} {u : iST} (hT : CT u) (hB : BnOk u) (hq : ∀ r, (r ≠ 0 ↔ (∀ i, 0 ≤ i → i < u.1 39 → (oc u (u.2.1 36 i)).isVar = true) ∧ ∀ i j, 0 ≤ i → i < j → j < u.1 39 → u.2.1 36 i ≠ u.2.1 36 j) → Q r u) : pv_10_isBoundToVariables Q u := by
  unfold pv_10_isBoundToVariables
  refine pv_10_isBoundToVariables_2_i (fun x1 y => y = u ∧ 0 ≤ x1 ∧ (∀ i, 0 ≤ i → i < x1 → (oc u (u.2.1 36 i)).isVar = true) ∧ ∀ i j, 0 ≤ i → i < j → j < x1 → u.2.1 36 i ≠ u.2.1 36 j) ?_ ⟨rfl, Int.le_refl _, fun i h1 h2 => by omega, fun i j h1 h2 h3 => by omega⟩
  rintro x1 y ⟨ey, i0, hv, hd⟩
  rw [ey]
  unfold pv_10_isBoundToVariables_2b
  intro n1 en1 _
  rw [en1]
  refine ⟨fun z _ => hq 1 ⟨fun _ => ⟨fun i h1 h2 => hv i h1 (by omega), fun i j h1 h2 h3 => hd i j h1 h2 (by omega)⟩, fun _ => by decide⟩, fun z => ?_⟩
  intro _ _ n2 en2 _
  rw [en2]
  have v36 := (hB.2.2 x1 i0 (by omega)).2
  refine pc_isVariable hT v36 (fun r hr => ⟨fun z2 => ?_, fun z2 _ => hq 0 ⟨fun q => absurd rfl q, fun q => ?_⟩⟩)
  rotate_left
  · have := q.1 x1 i0 (by omega)
    rw [hr.f (Decidable.not_not.mp z2)] at this
    cases this
  have iv := hr.t z2
  refine pv_10_isBoundToVariables_30_i (fun w1 w2 y => w1 = x1 ∧ y = u ∧ 0 ≤ w2 ∧ w2 ≤ x1 ∧ ∀ i, 0 ≤ i → i < w2 → u.2.1 36 i ≠ u.2.1 36 x1) ?_ ⟨rfl, rfl, Int.le_refl _, i0, fun i h1 h2 => by omega⟩
  rintro w1 w2 y ⟨e1, e2, j0, j1, hj⟩
  rw [e1, e2]
  unfold pv_10_isBoundToVariables_30b
  refine ⟨fun z3 _ => ⟨rfl, by omega, fun i h1 h2 => ?_, fun i j h1 h2 h3 => ?_⟩, fun z3 => ?_⟩
  · by_cases c : i = x1
    · rw [c]; exact iv
    · exact hv i h1 (by omega)
  · by_cases c : j = x1
    · rw [c]; exact hj i h1 (by omega)
    · exact hd i j h1 h2 (by omega)
  · intro _ _ n5 en5 _ _ _ n6 en6 _
    rw [en5, en6]
    refine ⟨fun z4 _ => ⟨rfl, rfl, by omega, by omega, fun i h1 h2 => ?_⟩, fun z4 _ => hq 0 ⟨fun q => absurd rfl q, fun q => ?_⟩⟩
    · by_cases c : i = w2
      · rw [c]; exact z4
      · exact hj i h1 (by omega)
    · exact absurd (Decidable.not_not.mp z4) (q.2 w2 x1 j0 (by omega) (by omega))
theorem bdL_mem [DecidableEq Ob] {w : iST} {p : Ob × Ob} : p ∈ bdL w ↔ ∃ i, 0 ≤ i ∧ i < w.1 39 ∧ p = (oc w (w.2.1 35 i), oc w (w.2.1 36 i)) := by
  unfold bdL
  constructor
  · intro h
    obtain ⟨i, hi, e⟩ := List.mem_map.mp h
    have hi := List.mem_range.mp hi
    exact ⟨(i : Int), by omega, by omega, e.symm⟩
  · rintro ⟨i, i0, i1, e⟩
    exact List.mem_map.mpr ⟨i.toNat, List.mem_range.mpr (by omega), by rw [Int.toNat_of_nonneg i0]; exact e.symm⟩
theorem bdL_at [DecidableEq Ob] {w : iST} (kd : KyD w) {i : Int} (i0 : 0 ≤ i) (i1 : i < w.1 39) : Ob.lk (bdL w) (oc w (w.2.1 35 i)) = some (oc w (w.2.1 36 i)) := by
  refine lk_of_mem ?_ (bdL_mem.mpr ⟨i, i0, i1, rfl⟩)
  unfold bdL
  rw [List.map_map]
  refine List.pairwise_map.mpr (List.Pairwise.imp_of_mem (fun {a b} ha hb hab => ?_) (List.pairwise_lt_range (n := (w.1 39).toNat)))
  have hb := List.mem_range.mp hb
  exact kd (a : Int) (b : Int) (by omega) (by omega) (by omega)
/-- a rule that turns variables round, by its bindings -/
theorem turns_bd [DecidableEq Ob] {w : iST} {ar : Ob → Int} {l r : Ob} (hl : Ob.wt ar l) (hr : Ob.wt ar r) (hT : CT w) (hB : BnOk w) (kd : KyD w) (hag : ∀ s, Ob.sbM s false l = r ↔ Ag s (bdL w)) (hbd : ∀ x, vr false l x → (Ob.lk (bdL w) x).isSome = true) : Sp.turns l r = true ↔ (∀ i, 0 ≤ i → i < w.1 39 → (oc w (w.2.1 36 i)).isVar = true) ∧ ∀ i j, 0 ≤ i → i < j → j < w.1 39 → w.2.1 36 i ≠ w.2.1 36 j := by
  rw [turns_iff hl hr]
  constructor
  · rintro ⟨s, hg, hs⟩
    obtain ⟨g1, g2⟩ := hg (by decide)
    have ha := (hag s).mp hs
    have key : ∀ i, 0 ≤ i → i < w.1 39 → vr false l (oc w (w.2.1 35 i)) ∧ s (oc w (w.2.1 35 i)) = oc w (w.2.1 36 i) := by
      intro i i0 i1
      have hk := bdL_at kd i0 i1
      refine ⟨Classical.byContradiction (fun hn => ?_), ha _ _ hk⟩
      have h2 := (hag (fun z => if z = oc w (w.2.1 35 i) then (if oc w (w.2.1 36 i) = Ob.nil then Ob.t else Ob.nil) else s z)).mp (by
        rw [← hs]
        refine sb_congr false l (fun x hx => ?_)
        show (if x = oc w (w.2.1 35 i) then _ else s x) = s x
        rw [if_neg (fun q => hn (by rw [← q]; exact hx))])
      have h3 := h2 _ _ hk
      have h3 : (if oc w (w.2.1 35 i) = oc w (w.2.1 35 i) then (if oc w (w.2.1 36 i) = Ob.nil then Ob.t else Ob.nil) else s (oc w (w.2.1 35 i))) = oc w (w.2.1 36 i) := h3
      rw [if_pos rfl] at h3
      by_cases c : oc w (w.2.1 36 i) = Ob.nil
      · rw [if_pos c, c] at h3
        exact absurd h3 (Ob.sym_ne (by decide))
      · rw [if_neg c] at h3
        exact c h3.symm
    refine ⟨fun i i0 i1 => ?_, fun i j i0 ij j1 he => ?_⟩
    · rw [← (key i i0 i1).2]; exact g1 _ (key i i0 i1).1
    · obtain ⟨a1, a2⟩ := key i i0 (by omega)
      obtain ⟨b1, b2⟩ := key j (by omega) j1
      exact kd i j i0 ij j1 (g2 _ _ a1 b1 (by rw [a2, b2, he]))
  · rintro ⟨h1, h2⟩
    have get : ∀ x, vr false l x → ∃ i, 0 ≤ i ∧ i < w.1 39 ∧ x = oc w (w.2.1 35 i) ∧ Ob.lkD (bdL w) x = oc w (w.2.1 36 i) := by
      intro x hx
      obtain ⟨y, hy⟩ := Option.isSome_iff_exists.mp (hbd x hx)
      obtain ⟨i, i0, i1, e⟩ := bdL_mem.mp (mem_of_lk hy)
      have e := Prod.mk.inj e
      exact ⟨i, i0, i1, e.1, by unfold Ob.lkD; rw [hy, ← e.2]; rfl⟩
    refine ⟨Ob.lkD (bdL w), fun _ => ⟨fun x hx => ?_, fun x y hx hy exy => ?_⟩, (hag _).mpr (Ag_lkD _)⟩
    · obtain ⟨i, i0, i1, _, e⟩ := get x hx
      rw [e]; exact h1 i i0 i1
    · obtain ⟨i, i0, i1, ex, e⟩ := get x hx
      obtain ⟨j, j0, j1, ey, e'⟩ := get y hy
      rw [e, e'] at exy
      have v1 := (hB.2.2 i i0 i1).2
      have v2 := (hB.2.2 j j0 j1).2
      have eij := (hT.1.inj v1.1 v1.2 v2.1 v2.2).mp exy
      rcases Int.lt_trichotomy i j with q | q | q
      · exact absurd eij (h2 i j i0 q j1)
      · rw [ex, ey, q]
      · exact absurd eij.symm (h2 j i j0 q i1)
theorem f8q_m [DecidableEq Ob] : ∀ k, f8m k = false → f8q k = false := by
  intro k h
  unfold f8m at h
  unfold f8q
  simp only [Bool.or_eq_false_iff, decide_eq_false_iff_not] at h ⊢
  omega
/-- the variables of a term are bound -/
theorem pc_bindVariablesOf [DecidableEq Ob] {a : Int} {Q : iST → Prop} {u : iST} {ar : Ob → Int} (hT : CT u) (na : VN u a) (hw : Ob.wt ar (oc u a)) (hz : (oc u a).sz ≤ 120) (hq : ∀ v, CG f8b f8m u v → BnOk v → v.2.2 = u.2.2 → (∀ x, (∃ i, 0 ≤ i ∧ i < v.1 39 ∧ oc v (v.2.1 35 i) = x) ↔ (x ∈ Ob.parts (oc u a) ∧ Ob.isVar x = true)) → Q v) : pv_10_bindVariablesOf a Q u := by
  unfold pv_10_bindVariablesOf
  intro y1 e1
  have g1 : CG f8b f8m u y1 := by rw [e1]; exact CG_I hT (by decide) (by decide)
  have c1 : y1.2.2 = u.2.2 := by rw [e1]; rfl
  have ec1 : ∀ k, oc y1 k = oc u k := oc_same c1
  have y39 : y1.1 39 = 0 := by rw [e1]; rfl
  refine pc_listParts (ar := ar) g1.1 (na.up g1) (by rw [ec1]; exact hw) (by rw [ec1]; exact hz) (fun n y gy hp hn c2 => ?_)
  rw [ec1] at hp
  have gy' : CG f8b f8m y1 y := gy.mono f80_any f8q_m
  have yn : ∀ k, y.1 k = y1.1 k := fun k => gy.2.2.1 k rfl
  refine pv_10_bindVariablesOf_13_i (fun x2 x3 z => x2 = n ∧ 0 ≤ x3 ∧ CG f8b f8m y z ∧ z.2.2 = y.2.2 ∧ z.2.1 43 = y.2.1 43 ∧ BnOk z ∧ z.1 39 ≤ x3 ∧ ∀ x, (∃ i, 0 ≤ i ∧ i < z.1 39 ∧ oc z (z.2.1 35 i) = x) ↔ (∃ j, 0 ≤ j ∧ j < x3 ∧ j < n ∧ oc y (y.2.1 43 j) = x) ∧ Ob.isVar x = true) ?_ ⟨rfl, Int.le_refl _, CG.rf gy.1, rfl, rfl, ⟨by rw [yn, y39]; decide, by rw [yn, y39]; decide, fun i i0 i1 => by rw [yn, y39] at i1; omega⟩, by rw [yn, y39]; decide, fun x => ⟨fun ⟨i, i0, i1, _⟩ => by rw [yn, y39] at i1; omega, fun ⟨⟨j, j0, j1, _⟩, _⟩ => by omega⟩⟩
  rintro x2 x3 z ⟨b2, i0, gz, cz, z43, hB, h39, hk⟩
  rw [b2]
  have ec : ∀ k, oc z k = oc y k := oc_same cz
  unfold pv_10_bindVariablesOf_13b
  refine ⟨fun q => hq z ((g1.tr gy').tr gz) hB (by rw [cz, c2, c1]) (fun x => ?_), fun q => ?_⟩
  · rw [hk x, hp.all x]
    exact ⟨fun ⟨⟨j, j0, j1, j2, e⟩, h⟩ => ⟨⟨j, j0, j2, e⟩, h⟩, fun ⟨⟨j, j0, j1, e⟩, h⟩ => ⟨⟨j, j0, by omega, j1, e⟩, h⟩⟩
  intro _ _ n2 en2 _
  rw [z43] at en2
  have vj : VN y (y.2.1 43 x3) := hp.2.1 x3 i0 (by omega)
  rw [en2]
  -- nothing new
  have skip : (¬ (oc y (y.2.1 43 x3)).isVar = true ∨ ∃ i, 0 ≤ i ∧ i < z.1 39 ∧ oc z (z.2.1 35 i) = oc y (y.2.1 43 x3)) → (n = n ∧ 0 ≤ x3 + 1 ∧ CG f8b f8m y z ∧ z.2.2 = y.2.2 ∧ z.2.1 43 = y.2.1 43 ∧ BnOk z ∧ z.1 39 ≤ x3 + 1 ∧ ∀ x, (∃ i, 0 ≤ i ∧ i < z.1 39 ∧ oc z (z.2.1 35 i) = x) ↔ (∃ j, 0 ≤ j ∧ j < x3 + 1 ∧ j < n ∧ oc y (y.2.1 43 j) = x) ∧ Ob.isVar x = true) := by
    intro h
    refine ⟨rfl, by omega, gz, cz, z43, hB, by omega, fun x => ?_⟩
    constructor
    · intro h1
      obtain ⟨⟨j, j0, j1, j2, e⟩, h2⟩ := (hk x).mp h1
      exact ⟨⟨j, j0, by omega, j2, e⟩, h2⟩
    · rintro ⟨⟨j, j0, j1, j2, e⟩, h2⟩
      by_cases c : j = x3
      · rw [c] at e
        rcases h with h | ⟨i, i0', i1', e'⟩
        · rw [e] at h; exact absurd h2 h
        · exact ⟨i, i0', i1', by rw [e', e]⟩
      · exact (hk x).mpr ⟨⟨j, j0, by omega, j2, e⟩, h2⟩
  refine pc_isVariable gz.1 (vj.up gz) (fun r hr => ⟨fun z1 _ => skip (Or.inl (fun q2 => ?_)), fun z1 => ?_⟩)
  · have := hr.f z1
    rw [ec, q2] at this; cases this
  have iv := hr.t z1
  rw [ec] at iv
  intro _ _ n5 en5 _
  rw [z43] at en5
  rw [en5]
  refine pc_standsFor gz.1 hB (vj.up gz) (fun hn2 => ⟨fun q3 => absurd rfl q3, fun _ => ?_⟩) (fun r3 v3 hs3 => ⟨fun _ _ => skip (Or.inr ?_), fun q3 => ?_⟩)
  · intro _ _ n8 en8 _ _ _ n9 en9 _
    rw [z43] at en8 en9
    rw [en8, en9]
    refine pc_bind gz.1 hB (vj.up gz) (vj.up gz) (by omega) (fun w gw hBw hbl w39 hrr h35 h36 hc => ?_)
    intro _
    have ecw : ∀ k, oc w k = oc y k := fun k => by rw [oc_same hc k]; exact ec k
    refine ⟨rfl, by omega, gz.tr gw, by rw [hc, cz], by rw [hrr 43 (by decide) (by decide)]; exact z43, hBw, by omega, fun x => ?_⟩
    constructor
    · rintro ⟨i, i0', i1', e⟩
      rw [h35] at e
      by_cases c : i = z.1 39
      · rw [if_pos c, ecw] at e
        exact ⟨⟨x3, i0, by omega, by omega, e⟩, by rw [← e]; exact iv⟩
      · rw [if_neg c, ecw, ← ec] at e
        obtain ⟨⟨j, j0, j1, j2, e'⟩, h2⟩ := (hk x).mp ⟨i, i0', by omega, e⟩
        exact ⟨⟨j, j0, by omega, j2, e'⟩, h2⟩
    · rintro ⟨⟨j, j0, j1, j2, e⟩, h2⟩
      by_cases c : j = x3
      · rw [c] at e
        exact ⟨z.1 39, hB.1, by omega, by rw [h35, if_pos rfl, ecw]; exact e⟩
      · obtain ⟨i, i0', i1', e'⟩ := (hk x).mpr ⟨⟨j, j0, by omega, j2, e⟩, h2⟩
        exact ⟨i, i0', by omega, by rw [h35, if_neg (by omega), ecw, ← ec]; exact e'⟩
  · have hm := mem_of_lk hs3
    obtain ⟨i, i0', i1', e⟩ := bdL_mem.mp hm
    exact ⟨i, i0', i1', by rw [← (Prod.mk.inj e).1, ec]⟩
  · have := v3.1
    have := Decidable.not_not.mp q3
    omega
/-- whether a term has all that is bound -/
theorem pc_hasBound [DecidableEq Ob] {a : Int} {Q : Int → iST → Prop} {u : iST} {ar : Ob → Int} (hT : CT u) (na : VN u a) (hw : Ob.wt ar (oc u a)) (hz : (oc u a).sz ≤ 120) (hB : BnOk u) (hq : ∀ r v, CG f80 f8q u v → v.2.2 = u.2.2 → (r ≠ 0 ↔ ∀ i, 0 ≤ i → i < u.1 39 → oc u (u.2.1 35 i) ∈ Ob.parts (oc u a)) → Q r v) : pv_10_hasBound a Q u := by
  unfold pv_10_hasBound
  refine pc_listParts (ar := ar) hT na hw hz (fun n y gy hp hn c2 => ?_)
  have ec : ∀ k, oc y k = oc u k := oc_same c2
  have yn : ∀ k, y.1 k = u.1 k := fun k => gy.2.2.1 k rfl
  have y35 : y.2.1 35 = u.2.1 35 := gy.2.2.2 35 (by decide)
  refine pv_10_hasBound_11_i (fun x2 x3 x4 z => x2 = n ∧ z = y ∧ 0 ≤ x4 ∧ x4 ≤ u.1 39 ∧ x3 ≤ x4 ∧ (x3 = x4 ↔ ∀ i, 0 ≤ i → i < x4 → oc u (u.2.1 35 i) ∈ Ob.parts (oc u a))) ?_ ⟨rfl, rfl, Int.le_refl _, hB.1, Int.le_refl _, ⟨fun _ i i0 i1 => by omega, fun _ => rfl⟩⟩
  rintro x2 x3 x4 z ⟨b2, bz, i0, i1, i2, hk⟩
  rw [b2, bz]
  unfold pv_10_hasBound_11b
  intro n2 en2 _
  rw [en2, yn]
  refine ⟨fun z1 => ?_, fun z1 => ?_⟩
  · have e4 : x4 = u.1 39 := by omega
    intro n3 en3 _
    rw [en3]
    rw [e4] at hk
    exact ⟨fun q _ => hq 0 y gy c2 ⟨fun q2 => absurd rfl q2, fun q2 => absurd (hk.mpr q2) q⟩, fun q _ => hq 1 y gy c2 ⟨fun _ => hk.mp (Decidable.not_not.mp q), fun _ => by decide⟩⟩
  -- is it there
  have v35 := (hB.2.2 x4 i0 (by omega)).1
  refine pv_10_hasBound_26_i (fun w2 w3 w4 w5 w6 z => w2 = n ∧ w3 = x3 ∧ w4 = x4 ∧ z = y ∧ 0 ≤ w6 ∧ (w5 ≠ 0 ↔ ∃ j, 0 ≤ j ∧ j < w6 ∧ j < n ∧ oc y (y.2.1 43 j) = oc u (u.2.1 35 x4))) ?_ ⟨rfl, rfl, rfl, rfl, Int.le_refl _, ⟨fun q => absurd rfl q, fun ⟨j, j0, j1, _⟩ => by omega⟩⟩
  rintro w2 w3 w4 w5 w6 z ⟨d2, d3, d4, dz, j0, hj⟩
  rw [d2, d3, d4, dz]
  have out : (w5 ≠ 0 ↔ oc u (u.2.1 35 x4) ∈ Ob.parts (oc u a)) → pv_10_hasBound_67 (fun x2 x3 x4 z => x2 = n ∧ z = y ∧ 0 ≤ x4 ∧ x4 ≤ u.1 39 ∧ x3 ≤ x4 ∧ (x3 = x4 ↔ ∀ i, 0 ≤ i → i < x4 → oc u (u.2.1 35 i) ∈ Ob.parts (oc u a))) Q n x3 x4 w5 y := by
    intro h
    unfold pv_10_hasBound_67
    refine ⟨fun q _ _ => ⟨rfl, rfl, by omega, by omega, by omega, ⟨fun q2 => by omega, fun q2 => absurd q (h.mpr (q2 x4 i0 (by omega)))⟩⟩, fun q _ _ => ⟨rfl, rfl, by omega, by omega, by omega, ⟨fun q2 i k0 k1 => ?_, fun q2 => ?_⟩⟩⟩
    · by_cases c : i = x4
      · rw [c]; exact h.mp q
      · exact hk.mp (by omega) i k0 (by omega)
    · have := hk.mpr (fun i k0 k1 => q2 i k0 (by omega))
      omega
  unfold pv_10_hasBound_26b
  refine ⟨fun q => out ?_, fun q => ⟨fun q2 => out ?_, fun q2 => ?_⟩⟩
  · rw [hj, hp.all]
    exact ⟨fun ⟨j, k0, k1, k2, e⟩ => ⟨j, k0, k2, e⟩, fun ⟨j, k0, k1, e⟩ => ⟨j, k0, by omega, k1, e⟩⟩
  · refine ⟨fun _ => ?_, fun _ => q2⟩
    obtain ⟨j, k0, k1, k2, e⟩ := hj.mp q2
    exact (hp.all _).mpr ⟨j, k0, k2, e⟩
  · have q2 := Decidable.not_not.mp q2
    intro _ _ n8 en8 _ _ _ n9 en9 _
    have vj := hp.2.1 w6 j0 (by omega)
    have v8 : VN u (y.2.1 43 w6) := ⟨vj.1, by have := vj.2; rw [yn] at this; exact this⟩
    have iff1 := hT.1.inj v8.1 v8.2 v35.1 v35.2
    rw [en8, en9, y35]
    refine ⟨fun q3 _ => ⟨rfl, rfl, rfl, rfl, by omega, ⟨fun q4 => absurd rfl q4, fun ⟨j, k0, k1, k2, e⟩ => ?_⟩⟩, fun q3 _ => ⟨rfl, rfl, rfl, rfl, by omega, ⟨fun _ => ⟨w6, j0, by omega, by omega, ?_⟩, fun _ => by decide⟩⟩⟩
    · by_cases c : j = w6
      · rw [c, ec] at e
        exact absurd (iff1.mp e) q3
      · exact absurd q2 (hj.mpr ⟨j, k0, by omega, k2, e⟩)
    · rw [ec]; exact iff1.mpr (Decidable.not_not.mp q3)
theorem covers_iff [DecidableEq Ob] {l o : Ob} : Sp.covers l o = true ↔ ∀ x, x ∈ Ob.parts o → Ob.isVar x = true → x ∈ Ob.parts l := by
  unfold Sp.covers
  rw [List.all_eq_true]
  constructor
  · intro h x hx hv
    have := h x hx
    rw [hv] at this
    exact Ob.has_iff.mp (by simpa using this)
  · intro h x hx
    cases hv : Ob.isVar x with
    | false => rfl
    | true => simpa using Ob.has_iff.mpr (h x hx hv)
/-- a term covers another's variables -/
theorem pc_coversC [DecidableEq Ob] {l o : Int} {Q : Int → iST → Prop} {u : iST} {E : Sp.Env} (hT : CT u) (nl : NdC u E l) (no : NdC u E o) (hq : ∀ r v, CG f8b f8m u v → v.2.2 = u.2.2 → bq r (Sp.covers (oc u l) (oc u o)) → Q r v) : pv_10_bindVariablesOf o (fun u => pv_10_hasBound l Q u) u := by
  refine pc_bindVariablesOf (ar := Sp.arOf E) hT no.1 no.2.1 no.2.2 (fun v gv hB cv hv => ?_)
  have ec : ∀ k, oc v k = oc u k := oc_same cv
  refine pc_hasBound (ar := Sp.arOf E) gv.1 (nl.1.up gv) (by rw [ec]; exact nl.2.1) (by rw [ec]; exact nl.2.2) hB (fun r w gw cw hr => hq r w (gv.tr (gw.mono f80_any f8q_m)) (by rw [cw, cv]) (bq_of ?_))
  rw [hr, covers_iff, ec]
  constructor
  · intro h x hx hx2
    obtain ⟨i, i0, i1, e⟩ := (hv x).mpr ⟨hx, hx2⟩
    rw [← e]; exact h i i0 i1
  · intro h i i0 i1
    obtain ⟨a, b⟩ := (hv _).mp ⟨i, i0, i1, rfl⟩
    exact h _ a b
