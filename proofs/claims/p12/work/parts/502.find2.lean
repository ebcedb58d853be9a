-- deps: 501
/-! the reference, partial: calls that are found; rows of variables -/
def f7F (k : Nat) : Bool := decide (75 ≤ k ∧ k ≤ 76) || decide (130 ≤ k ∧ k ≤ 131)
theorem f7W_F [DecidableEq Ob] : ∀ k, f7F k = false → f7W k = false := by
  intro k h
  unfold f7F at h
  unfold f7W
  simp only [Bool.or_eq_false_iff, decide_eq_false_iff_not] at h ⊢
  omega
def fdL [DecidableEq Ob] (v : iST) : List Ob := ls v (v.2.1 130) 0 (v.1 131).toNat
def FdOk [DecidableEq Ob] (v : iST) (ar : Ob → Int) : Prop := 0 ≤ v.1 131 ∧ ∀ i, 0 ≤ i → i < v.1 131 → NdA v ar (v.2.1 130 i)
theorem FdOk.mono [DecidableEq Ob] {n : Nat → Bool} {v w : iST} {ar : Ob → Int} (h : FdOk v ar) (hT : TI v) (hG : GZ n v w) (e131 : w.1 131 = v.1 131) (e130 : w.2.1 130 = v.2.1 130) : FdOk w ar ∧ fdL w = fdL v := by
  refine ⟨⟨by rw [e131]; exact h.1, fun i i0 i1 => ?_⟩, ?_⟩
  · rw [e131] at i1
    rw [e130]
    exact ((h.2 i i0 i1).mono hT hG).1
  · unfold fdL
    rw [e131, e130]
    refine ls_congr (fun i hi => ?_)
    have := h.1
    exact ((h.2 _ (by omega) (by omega)).mono hT hG).2
theorem p_find [DecidableEq Ob] {a f : Int} {Q : iST → Prop} {u : iST} {ar : Ob → Int} (hT : TI u) (hU : TU u) (na : NdA u ar a) (f0 : 0 ≤ f) (f1 : f < u.1 8) (hq : ∀ v, GZ f7F u v → FdOk v ar → fdL v = Sp.callsIn (ob u a) (ob u f) → Q v) : pw_find a f Q u := by
  unfold pw_find
  intro w ew
  have gw : GZ f7F u w := by
    rw [ew]
    exact GZ_eq (GZ.rf hT hU) (fun k hk => ⟨if_neg (by omega), rfl⟩) rfl (Fx_I (by decide))
  have w131 : w.1 131 = 0 := by rw [ew]; rfl
  clear ew
  obtain ⟨nw, eo⟩ := na.mono hT gw
  intro w' ew'
  refine p_walk0 gw.1 gw.2.1 nw (fun v gv wv tv => ?_) ew'
  rw [eo] at tv
  have v131 : v.1 131 = 0 := ((gv.2.2.2.2 131 (by decide)).1).trans w131
  refine pw_find_15_i (fun x2 v => x2 = f ∧ GZ f7F u v ∧ WkO v ar ∧ FdOk v ar ∧ Sp.callsIn (ob u a) (ob u f) = fdL v ++ (todo v).filter (fun x => Ob.isCallOf x (ob u f))) ?_ ⟨rfl, gw.tr (gv.mono f7W_F), wv, ⟨by omega, fun i i0 i1 => by omega⟩, by
    rw [tv]
    unfold fdL
    rw [v131]
    rfl⟩
  intro x2 v hI
  obtain ⟨e2, gv, wv, fv, hv⟩ := hI
  rw [e2]
  unfold pw_find_15b
  intro y ey _
  refine ⟨fun hc => hq v gv fv (by rw [hv, todo_nil (by omega)]; simp), fun hc => ?_⟩
  refine p_walkOn gv.1 gv.2.1 wv (by omega) (fun k t gt wt nk et => ?_)
  have gut := gv.tr (gt.mono f7W_F)
  have ef := gut.ob hT f0 f1
  obtain ⟨ft, elt⟩ := fv.mono gv.1 gt ((gt.2.2.2.2 131 (by decide)).1) ((gt.2.2.2.2 130 (by decide)).2)
  have t131 := ft.1
  refine p_isCallOf gt.1 gt.2.1 nk.1 nk.2.1 f0 (by have := gut.le; omega) (fun r hr => ?_)
  rw [ef] at hr
  rw [et, ← elt, List.filter_cons] at hv
  refine ⟨fun hz => ?_, fun hz => ⟨rfl, gut, wt, ft, ?_⟩⟩
  · rw [hr.t hz, if_pos rfl] at hv
    intro z ez _ _ _ t1 et1 z2 ez2 _ _ t2 et2
    have ez2' : z2 = t.1 131 := by rw [ez2, et1]; rfl
    rw [ez2'] at et2
    rw [ez] at et1
    have g2 : GZ f7F t t2 := by
      rw [et2, et1]
      exact GZ_eq (GZ.rf gt.1 gt.2.1) (fun k hk => ⟨if_neg (by omega), if_neg (by omega)⟩) rfl ((Fx_A (by decide)).tr (Fx_I (by decide)))
    have n131 : t2.1 131 = t.1 131 + 1 := by rw [et2]; rfl
    have n130 : ∀ i, t2.2.1 130 i = if i = t.1 131 then k else t.2.1 130 i := fun i => by rw [et2, et1]; rfl
    have n76 : t2.1 76 = t.1 76 := by rw [et2, et1]; rfl
    have n75 : t2.2.1 75 = t.2.1 75 := by rw [et2, et1]; rfl
    clear et1 et2 ez ez2
    have wt2 : WkO t2 ar := ⟨by rw [n76]; exact wt.1, fun i i0 i1 => by rw [n76] at i1; rw [n75]; exact ((wt.2 i i0 i1).mono gt.1 g2).1⟩
    have st2 : todo t2 = todo t := by
      unfold todo stk
      rw [n76]
      refine congrArg _ (rvl_congr _ (fun i hi => ?_))
      show ob t2 (t2.2.1 75 (i : Int)) = ob t (t.2.1 75 (i : Int))
      have := wt.1
      rw [n75, ((wt.2 (i : Int) (by omega) (by omega)).mono gt.1 g2).2]
    have ob2 := (nk.mono gt.1 g2).2
    refine ⟨rfl, gut.tr g2, wt2, ⟨by omega, fun i i0 i1 => ?_⟩, ?_⟩
    · rw [n130]
      by_cases c : i = t.1 131
      · rw [if_pos c]; exact (nk.mono gt.1 g2).1
      · rw [if_neg c]; exact ((ft.2 i i0 (by omega)).mono gt.1 g2).1
    · rw [hv, st2]
      have : fdL t2 = fdL t ++ [ob t k] := by
        unfold fdL
        rw [n131, show (t.1 131 + 1).toNat = (t.1 131).toNat + 1 by omega, ls_snoc]
        refine congr (congrArg _ (ls_congr (fun i hi => ?_))) ?_
        · rw [n130, if_neg (by omega), ((ft.2 _ (by omega) (by omega)).mono gt.1 g2).2]
        · rw [n130, if_pos (by omega), ob2]
      rw [this, List.append_assoc]
      rfl
  · rw [hr.f (Decidable.not_not.mp hz), if_neg (by decide)] at hv
    exact hv
theorem areVars_iff [DecidableEq Ob] {l : List Ob} : Sp.areVars l = true ↔ ∀ i, i < l.length → (l.getD i Ob.nil).isVar = true ∧ ∀ j, j < i → l.getD j Ob.nil ≠ l.getD i Ob.nil := by
  unfold Sp.areVars
  rw [Bool.and_eq_true, List.all_eq_true, decide_eq_true_eq]
  have gd : ∀ i (h : i < l.length), l.getD i Ob.nil = l[i] := fun i h => by rw [List.getD_eq_getElem?_getD, List.getElem?_eq_getElem h]; rfl
  constructor
  · intro ⟨h1, h2⟩ i hi
    refine ⟨by rw [gd i hi]; exact h1 _ (List.getElem_mem hi), fun j hj => ?_⟩
    rw [gd i hi, gd j (by omega)]
    exact (List.pairwise_iff_getElem.mp h2) j i (by omega) hi hj
  · intro h
    refine ⟨fun x hx => ?_, List.pairwise_iff_getElem.mpr (fun i j hi hj hij => ?_)⟩
    · obtain ⟨i, hi, e⟩ := List.getElem_of_mem hx
      have := (h i hi).1
      rw [gd i hi, e] at this
      exact this
    · have := (h j hj).2 i hij
      rw [gd i hi, gd j hj] at this
      exact this
theorem p_areVariables [DecidableEq Ob] {a n : Int} {Q : Int → iST → Prop} {u : iST} (hT : TI u) (hU : TU u) (a0 : 0 ≤ a) (a1 : a < u.1 8) (h : ∀ r, bq r (decide ((ob u a).len ≠ -1) && decide ((ob u a).len ≤ n) && Sp.areVars (Ob.toList (ob u a))) → Q r u) : pw_areVariables a n Q u := by
  have h8 := hT.le
  unfold pw_areVariables
  refine p_lengthOf hT hU a0 a1 ⟨fun hc _ => h 0 (bq0 (by rw [hc]; rfl)), fun hc => ⟨fun hn => ?_, fun hn _ => h 0 (bq0 (by rw [decide_eq_false hn]; simp))⟩⟩
  have el := Ob.len_toList hc
  have eo := Ob.ofList_toList _ hc
  have hlow := ob_len_le hT _ a (Nat.lt_succ_self _) a0 a1
  rw [el] at hlow
  rw [decide_eq_true hc, decide_eq_true hn] at h
  rw [el]
  have item : ∀ (i : Nat) (P : Int → iST → Prop), i < (Ob.toList (ob u a)).length → (∀ k, 0 ≤ k → k < u.1 8 → ob u k = (Ob.toList (ob u a)).getD i Ob.nil → P k u) → pw_nth a (i : Int) P u := by
    intro i P hi hP
    refine p_nth hT a0 a1 (by omega) (by omega) (by rw [← eo]; exact hasIt_ofList _ _ (by simpa using hi)) (fun k k0 k1 ek => hP k k0 k1 ?_)
    rw [ek, Ob.item_get]
    rfl
  refine pw_areVariables_21_i (fun x1 x3 x4 v => v = u ∧ x1 = a ∧ x3 = ((Ob.toList (ob u a)).length : Int) ∧ ∃ m : Nat, x4 = (m : Int) ∧ ∀ i, i < m → i < (Ob.toList (ob u a)).length → ((Ob.toList (ob u a)).getD i Ob.nil).isVar = true ∧ ∀ j, j < i → (Ob.toList (ob u a)).getD j Ob.nil ≠ (Ob.toList (ob u a)).getD i Ob.nil) ?_ ⟨rfl, rfl, rfl, 0, rfl, fun i hi => by omega⟩
  intro x1 x3 x4 v hI
  obtain ⟨e0, e1, e3, m, e4, hm⟩ := hI
  rw [e0, e1, e3, e4]
  unfold pw_areVariables_21b
  refine ⟨fun hd _ => h 1 (bq1 ?_), fun hd => ?_⟩
  · show (true && Sp.areVars _) = true
    rw [Bool.true_and]
    exact areVars_iff.mpr (fun i hi => hm i (by omega) hi)
  · have bad : (((Ob.toList (ob u a)).getD m Ob.nil).isVar = true → ∃ j, j < m ∧ (Ob.toList (ob u a)).getD j Ob.nil = (Ob.toList (ob u a)).getD m Ob.nil) → Q 0 u := by
      intro hb
      refine h 0 (bq0 ?_)
      show (true && Sp.areVars _) = false
      rw [Bool.true_and]
      cases e : Sp.areVars (Ob.toList (ob u a)) with
      | false => rfl
      | true =>
        have := areVars_iff.mp e m (by omega)
        obtain ⟨j, j1, j2⟩ := hb this.1
        exact absurd j2 (this.2 j j1)
    refine item m _ (by omega) (fun k k0 k1 ek => p_isVariable hT hU k0 k1 (fun r hr => ?_))
    rw [ek] at hr
    refine ⟨fun hz => ?_, fun hz _ => bad (fun z => by rw [hr.f (Decidable.not_not.mp hz)] at z; exact absurd z (by decide))⟩
    refine pw_areVariables_46_i (fun x1 x3 x4 x5 v => v = u ∧ x1 = a ∧ x3 = ((Ob.toList (ob u a)).length : Int) ∧ x4 = (m : Int) ∧ ∃ c : Nat, x5 = (c : Int) ∧ ∀ j, j < c → j < m → (Ob.toList (ob u a)).getD j Ob.nil ≠ (Ob.toList (ob u a)).getD m Ob.nil) ?_ ⟨rfl, rfl, rfl, rfl, 0, rfl, fun j hj => by omega⟩
    intro x1 x3 x4 x5 v hI
    obtain ⟨e0, e1, e3, e4, c, e5, hc'⟩ := hI
    rw [e0, e1, e3, e4, e5]
    unfold pw_areVariables_46b
    refine ⟨fun he _ => ⟨rfl, rfl, rfl, m + 1, by omega, fun i hi hl => ?_⟩, fun he => ?_⟩
    · by_cases ci : i = m
      · rw [ci]; exact ⟨hr.t hz, fun j hj => hc' j (by omega) hj⟩
      · exact hm i (by omega) hl
    · refine item c _ (by omega) (fun k2 k20 k21 ek2 => item m _ (by omega) (fun k3 k30 k31 ek3 => ?_))
      have ei := hT.inj hU k20 k21 k30 k31
      rw [ek2, ek3] at ei
      refine ⟨fun hf _ => ⟨rfl, rfl, rfl, rfl, c + 1, by omega, fun j j1 j2 => ?_⟩, fun hf _ => bad (fun _ => ⟨c, by omega, ei.mpr (Decidable.not_not.mp hf)⟩)⟩
      by_cases cj : j = c
      · rw [cj]; exact fun z => hf (ei.mp z)
      · exact hc' j (by omega) j2
