-- deps: 715
/-! the class: variables of terms, rows that are bound -/
theorem has_cons [DecidableEq Ob] (a : Ob) (l : List Ob) (o : Ob) : Ob.has (a :: l) o = (decide (a = o) || Ob.has l o) := rfl
theorem pc_hasVariablesOf [DecidableEq Ob] {a l : Int} {Q : Int → iST → Prop} {u : iST} {ar : Ob → Int} (hT : CT u) (na : VN u a) (hw : Ob.wt ar (oc u a)) (hz : (oc u a).sz ≤ 120) (hl : VN u l) (hq : ∀ r v, CG f80 f8q u v → v.2.2 = u.2.2 → bq r ((Ob.parts (oc u a)).all (fun x => !Ob.isVar x || Ob.has (Ob.toList (oc u l)) x)) → Q r v) : pv_10_hasVariablesOf a l Q u := by
  unfold pv_10_hasVariablesOf
  refine pc_listParts hT na hw hz (fun n v gv hP hn hc => ?_)
  have ec : ∀ k, oc v k = oc u k := oc_same hc
  have hlv := hl.up gv
  have hTv := gv.1
  refine pv_10_hasVariablesOf_9_i (fun x2 x3 x4 y => x2 = l ∧ x3 = n ∧ y = v ∧ 0 ≤ x4 ∧ ∀ i, 0 ≤ i → i < x4 → (!Ob.isVar (oc v (v.2.1 43 i)) || Ob.has (Ob.toList (oc u l)) (oc v (v.2.1 43 i))) = true) ?_ ⟨rfl, rfl, rfl, Int.le_refl _, fun i i0 i1 => by omega⟩
  rintro x2 x3 x4 y ⟨e2, e3, ey, a0, ha⟩
  rw [e2, e3, ey]
  unfold pv_10_hasVariablesOf_9b
  refine ⟨fun h _ => hq 1 v gv hc (bq1 ?_), fun h => ?_⟩
  · rw [List.all_eq_true]
    intro x hx
    obtain ⟨i, i0, i1, e⟩ := (hP.all x).mp hx
    rw [← e]; exact ha i i0 (by omega)
  intro _ _ p ep _
  have vp := hP.2.1 x4 a0 (by omega)
  rw [← ep] at vp
  have go : ∀ y0 : Int, (y0 ≠ 0 ↔ (oc v p).isVar = false) → pv_10_hasVariablesOf_37 (fun x2 x3 x4 y => x2 = l ∧ x3 = n ∧ y = v ∧ 0 ≤ x4 ∧ ∀ i, 0 ≤ i → i < x4 → (!Ob.isVar (oc v (v.2.1 43 i)) || Ob.has (Ob.toList (oc u l)) (oc v (v.2.1 43 i))) = true) Q l n x4 y0 v := by
    intro y0 hy
    unfold pv_10_hasVariablesOf_37
    refine pv_10_hasVariablesOf_42_i (fun w2 w3 w4 w5 w6 y => w2 = l ∧ w3 = n ∧ w4 = x4 ∧ y = v ∧ VN v w6 ∧ ((w5 ≠ 0 ∨ Ob.has (Ob.toList (oc v w6)) (oc v p) = true) ↔ (!Ob.isVar (oc v p) || Ob.has (Ob.toList (oc u l)) (oc v p)) = true)) ?_ ⟨rfl, rfl, rfl, rfl, hlv, ?_⟩
    rotate_left
    · rw [hy, ec l, Bool.or_eq_true, Bool.not_eq_true']
    rintro w2 w3 w4 w5 w6 z ⟨f2, f3, f4, fz, v6, hiff⟩
    rw [f2, f3, f4, fz]
    have fin : ¬ Ob.has (Ob.toList (oc v w6)) (oc v p) = true ∨ w5 ≠ 0 → pv_10_hasVariablesOf_99 (fun x2 x3 x4 y => x2 = l ∧ x3 = n ∧ y = v ∧ 0 ≤ x4 ∧ ∀ i, 0 ≤ i → i < x4 → (!Ob.isVar (oc v (v.2.1 43 i)) || Ob.has (Ob.toList (oc u l)) (oc v (v.2.1 43 i))) = true) Q l n x4 w5 v := by
      intro hh
      unfold pv_10_hasVariablesOf_99
      refine ⟨fun h5 => ?_, fun h5 _ => hq 0 v gv hc (bq0 (bf_of (fun q => ?_)))⟩
      · intro _
        refine ⟨rfl, rfl, rfl, by omega, fun i i0 i1 => ?_⟩
        by_cases q : i = x4
        · rw [q, ← ep]; exact hiff.mp (Or.inl h5)
        · exact ha i i0 (by omega)
      · have := List.all_eq_true.mp q (oc v p) ((hP.all _).mpr ⟨x4, a0, by omega, by rw [← ep]⟩)
        rcases hiff.mpr this with z1 | z1
        · exact h5 z1
        · exact (hh.resolve_right h5) z1
    unfold pv_10_hasVariablesOf_42b
    refine pc_isPair hTv v6 (fun r hr => ⟨fun z1 => fin (Or.inl (fun q => ?_)), fun z1 => ⟨fun h5 => fin (Or.inr h5), fun h5 => ?_⟩⟩)
    · have := hr.f z1
      cases e : oc v w6 with
      | var x => rw [e] at q; cases q
      | op x y => rw [e] at this; cases this
    · have h5 := Decidable.not_not.mp h5
      obtain ⟨_, _, _, _, es⟩ := oc_sides hTv v6 ((oc_isPr hTv v6).mp (hr.t z1))
      have es2 : oc v w6 = .pr (Ob.lft (oc v w6)) (Ob.rgt (oc v w6)) := by rw [es]; rfl
      refine pc_left hTv v6 (fun m hm em => ?_)
      intro _ _ q eq _
      have eq : q = p := by rw [eq, ep]
      rw [eq]
      have hh : Ob.has (Ob.toList (oc v w6)) (oc v p) = (decide (oc v m = oc v p) || Ob.has (Ob.toList (Ob.rgt (oc v w6))) (oc v p)) := by
        rw [em]
        rw [es2]; rfl
      have inj := hTv.1.inj hm.1 hm.2 vp.1 vp.2
      rw [h5, hh] at hiff
      unfold pv_10_hasVariablesOf_83
      refine ⟨fun hne => pc_right hTv v6 (fun t ht et => ⟨rfl, rfl, rfl, rfl, ht, ?_⟩), fun he => pc_right hTv v6 (fun t ht et => ⟨rfl, rfl, rfl, rfl, ht, ?_⟩)⟩
      · rw [← hiff, et, decide_eq_false (fun z => hne (inj.mp z)), Bool.false_or]
      · rw [← hiff, decide_eq_true (inj.mpr (Decidable.not_not.mp he)), Bool.true_or]
        exact ⟨fun _ => Or.inr rfl, fun _ => Or.inl (by decide)⟩
  refine pc_isVariable hTv vp (fun r hr => ⟨fun z => go 0 ⟨fun q => absurd rfl q, fun q => ?_⟩, fun z => go 1 ⟨fun _ => hr.f (Decidable.not_not.mp z), fun _ => by decide⟩⟩)
  rw [hr.t z] at q; cases q
theorem areVars_cons [DecidableEq Ob] (x : Ob) (l : List Ob) : Sp.areVars (x :: l) = (Ob.isVar x && (!Ob.has l x && Sp.areVars l)) := by
  unfold Sp.areVars
  rw [List.all_cons]
  have : decide ((x :: l).Nodup) = (!Ob.has l x && decide l.Nodup) := by
    by_cases q : Ob.has l x = true
    · rw [q, decide_eq_false (fun z => (List.nodup_cons.mp z).1 (Ob.has_iff.mp q))]; rfl
    · rw [bf_of q]
      by_cases q2 : l.Nodup
      · rw [decide_eq_true q2, decide_eq_true (List.nodup_cons.mpr ⟨fun z => q (Ob.has_iff.mpr z), q2⟩)]; rfl
      · rw [decide_eq_false q2, decide_eq_false (fun z => q2 (List.nodup_cons.mp z).2)]; rfl
  rw [this]
  cases Ob.isVar x <;> cases l.all Ob.isVar <;> cases Ob.has l x <;> cases decide l.Nodup <;> rfl
theorem pc_areDifferentVariables [DecidableEq Ob] {a : Int} {Q : Int → iST → Prop} {u : iST} (hT : CT u) (ha : VN u a) (hq : ∀ r, bq r (Sp.areVars (Ob.toList (oc u a))) → Q r u) : pv_10_areDifferentVariables a Q u := by
  unfold pv_10_areDifferentVariables
  refine pv_10_areDifferentVariables_2_i (fun x y => y = u ∧ VN u x ∧ Sp.areVars (Ob.toList (oc u x)) = Sp.areVars (Ob.toList (oc u a))) ?_ ⟨rfl, ha, rfl⟩
  rintro x y ⟨ey, hx, e⟩
  rw [ey]
  unfold pv_10_areDifferentVariables_2b
  refine pc_isPair hT hx (fun r hr => ⟨fun z _ => hq 1 (bq1 ?_), fun z => ?_⟩)
  · rw [← e]
    have := hr.f z
    cases e2 : oc u x with
    | var q => unfold Sp.areVars; rfl
    | op p q => rw [e2] at this; cases this
  obtain ⟨_, _, _, _, es⟩ := oc_sides hT hx ((oc_isPr hT hx).mp (hr.t z))
  have es2 : oc u x = .pr (Ob.lft (oc u x)) (Ob.rgt (oc u x)) := by rw [es]; rfl
  have et0 : Sp.areVars (Ob.toList (oc u a)) = (Ob.isVar (Ob.lft (oc u x)) && (!Ob.has (Ob.toList (Ob.rgt (oc u x))) (Ob.lft (oc u x)) && Sp.areVars (Ob.toList (Ob.rgt (oc u x))))) := by
    rw [← e, ← areVars_cons]
    rw [es2]; rfl
  refine pc_left hT hx (fun l hl el => pc_isVariable hT hl (fun r2 hr2 => ⟨fun z2 => ?_, fun z2 _ => hq 0 (bq0 ?_)⟩))
  rotate_left
  · rw [et0, ← el, hr2.f (Decidable.not_not.mp z2)]; rfl
  have iv := hr2.t z2
  rw [← el, iv, Bool.true_and] at et0
  refine pc_right hT hx (fun t ht et => ?_)
  rw [← et] at et0
  refine pv_10_areDifferentVariables_42_i (fun w2 w3 y => w2 = x ∧ y = u ∧ VN u w3 ∧ Ob.has (Ob.toList (oc u w3)) (oc u l) = Ob.has (Ob.toList (oc u t)) (oc u l)) ?_ ⟨rfl, rfl, ht, rfl⟩
  rintro w2 w3 y2 ⟨f2, fy, v3, e3⟩
  rw [f2, fy]
  unfold pv_10_areDifferentVariables_42b
  refine pc_isPair hT v3 (fun r3 hr3 => ⟨fun z3 => pc_right hT hx (fun t' ht' et' => ⟨rfl, ht', ?_⟩), fun z3 => ?_⟩)
  · have hn : Ob.has (Ob.toList (oc u t)) (oc u l) = false := by
      rw [← e3]
      have := hr3.f z3
      cases e9 : oc u w3 with
      | var q => rfl
      | op p q => rw [e9] at this; cases this
    rw [et0, hn, et', ← et]; rfl
  · obtain ⟨_, _, _, _, es3⟩ := oc_sides hT v3 ((oc_isPr hT v3).mp (hr3.t z3))
    have es4 : oc u w3 = .pr (Ob.lft (oc u w3)) (Ob.rgt (oc u w3)) := by rw [es3]; rfl
    refine pc_left hT v3 (fun m hm em => pc_left hT hx (fun l2 hl2 el2 => ?_))
    have el3 : l2 = l := (hT.1.inj hl2.1 hl2.2 hl.1 hl.2).mp (by rw [el2, el])
    rw [el3]
    have hh : Ob.has (Ob.toList (oc u w3)) (oc u l) = (decide (oc u m = oc u l) || Ob.has (Ob.toList (Ob.rgt (oc u w3))) (oc u l)) := by
      rw [em]
      rw [es4]; rfl
    have inj := hT.1.inj hm.1 hm.2 hl.1 hl.2
    refine ⟨fun hne => pc_right hT v3 (fun t3 ht3 et3 => ⟨rfl, rfl, ht3, ?_⟩), fun he _ => hq 0 (bq0 ?_)⟩
    · rw [et3, ← e3, hh, decide_eq_false (fun z => hne (inj.mp z)), Bool.false_or]
    · rw [et0, ← e3, hh, decide_eq_true (inj.mpr (Decidable.not_not.mp he))]; rfl
theorem zip_toList [DecidableEq Ob] {a b c d : Ob} : (Ob.toList (.pr a b)).zip (Ob.toList (.pr c d)) = (a, c) :: (Ob.toList b).zip (Ob.toList d) := rfl
/-- the names of a list are bound to the items of another -/
theorem pc_bindRow [DecidableEq Ob] {a b : Int} {Q : iST → Prop} {u : iST} (hT : CT u) (ha : VN u a) (hb : VN u b) (hl : itN (oc u a) = itN (oc u b)) (hm : itN (oc u a) ≤ 256) (hq : ∀ v, CG f8b f8m u v → BnOk v → bdL v = (Ob.toList (oc u a)).zip (Ob.toList (oc u b)) → v.2.2 = u.2.2 → Q v) : pv_10_bindRow a b Q u := by
  unfold pv_10_bindRow
  intro y1 e1
  have g1 : CG f8b f8m u y1 := by rw [e1]; exact CG_I hT (by decide) (by decide)
  have n39 : y1.1 39 = 0 := by rw [e1]; rfl
  have c1 : y1.2.2 = u.2.2 := by rw [e1]; rfl
  refine pv_10_bindRow_10_i (fun x3 x4 y => CG f8b f8m u y ∧ y.2.2 = u.2.2 ∧ BnOk y ∧ VN y x3 ∧ VN y x4 ∧ itN (oc y x4) = itN (oc y x3) ∧ y.1 39 + itN (oc y x4) ≤ 256 ∧ bdL y ++ (Ob.toList (oc y x4)).zip (Ob.toList (oc y x3)) = (Ob.toList (oc u a)).zip (Ob.toList (oc u b))) ?_ ⟨g1, c1, ⟨by omega, by omega, fun i i0 i1 => by omega⟩, hb.up g1, ha.up g1, by rw [oc_same c1, oc_same c1]; exact hl, by rw [n39, oc_same c1]; omega, by rw [oc_same c1, oc_same c1]; unfold bdL; rw [n39]; rfl⟩
  rintro x3 x4 y ⟨gy, cy, hB, v3, v4, e34, h256, hL⟩
  have hTy := gy.1
  unfold pv_10_bindRow_10b
  refine pc_isPair hTy v4 (fun r hr => ⟨fun z => hq y gy hB ?_ cy, fun z => ?_⟩)
  · rw [← hL]
    have := hr.f z
    cases e : oc y x4 with
    | var x => exact (List.append_nil _).symm
    | op p q => rw [e] at this; cases this
  obtain ⟨_, _, _, _, es⟩ := oc_sides hTy v4 ((oc_isPr hTy v4).mp (hr.t z))
  have es4 : oc y x4 = .pr (Ob.lft (oc y x4)) (Ob.rgt (oc y x4)) := by rw [es]; rfl
  have i4 : itN (oc y x4) = 1 + itN (Ob.rgt (oc y x4)) := by rw [es]; rfl
  have p3 : (oc y x3).isPr = true := by
    cases e : oc y x3 with
    | op p q => rfl
    | var x =>
      rw [e] at e34
      have e34 : itN (oc y x4) = 0 := e34
      have := itN_pos (Ob.rgt (oc y x4))
      omega
  obtain ⟨_, _, _, _, es'⟩ := oc_sides hTy v3 ((oc_isPr hTy v3).mp p3)
  have es3 : oc y x3 = .pr (Ob.lft (oc y x3)) (Ob.rgt (oc y x3)) := by rw [es']; rfl
  have i3 : itN (oc y x3) = 1 + itN (Ob.rgt (oc y x3)) := by rw [es']; rfl
  have hp := itN_pos (Ob.rgt (oc y x4))
  refine pc_left hTy v4 (fun l4 hl4 el4 => pc_left hTy v3 (fun l3 hl3 el3 => pc_bind hTy hB hl4 hl3 (by omega) (fun v gv hBn hbl h39 hrr h35 h36 hc => ?_)))
  have ec : ∀ k, oc v k = oc y k := oc_same hc
  refine pc_right gv.1 (v3.up gv) (fun t3 ht3 et3 => pc_right gv.1 (v4.up gv) (fun t4 ht4 et4 => ⟨gy.tr gv, by rw [hc, cy], hBn, ht3, ht4, ?_, ?_, ?_⟩))
  · rw [et3, et4, ec, ec]; omega
  · rw [et4, ec]; omega
  · rw [hbl, et3, et4, ec, ec, ← hL, el4, el3, List.append_assoc]
    refine congrArg (fun q => bdL y ++ q) ?_
    rw [show (Ob.toList (oc y x4)).zip (Ob.toList (oc y x3)) = (Ob.toList (.pr (Ob.lft (oc y x4)) (Ob.rgt (oc y x4)))).zip (Ob.toList (.pr (Ob.lft (oc y x3)) (Ob.rgt (oc y x3)))) by rw [← es4, ← es3], zip_toList]
    rfl
