-- deps: 524
/-! the reference: terms are filled in, whether or not something has failed -/
def PrW [DecidableEq Ob] (u : iST) (E : Sp.Env) : Prop := PrOk u ∧ ∀ q, q ∈ prs u → Ob.wt (Sp.arOf E) q.2
theorem PrW.at [DecidableEq Ob] {u : iST} {E : Sp.Env} (h : PrW u E) {x : Ob} (hx : x.isVar = true) : Ob.wt (Sp.arOf E) (Ob.lkD (prs u) x) := by
  unfold Ob.lkD
  cases e : Ob.lk (prs u) x with
  | none => exact Ob.wt_leaf (isVar_leaf hx)
  | some y => exact h.2 _ (mem_of_lk e)
theorem p_fillG [DecidableEq Ob] {a : Int} {Q : Int → iST → Prop} {u : iST} {E : Sp.Env} (hT : TI u) (hU : TU u) (hP : PrW u E) (h71 : 0 ≤ u.1 71) (na : Nd u E a) (s : Sp.Wk)
    (hq : ∀ k v, GM u v → Nd v E k → (u.1 61 = 0 → MK (Sp.fill (Ob.lkD (prs u)) (ob u a)) s v k) → (u.1 61 ≠ 0 → v.1 61 ≠ 0) → Q k v) : pw_instance a Q u := by
  refine p_instance hT hU hP.1 na.1 na.2.1 na.2.2.1 h71 (fun k v hG k0 k1 ek tk fk => ?_)
  have hw : Ob.wt (Sp.arOf E) (Ob.sbM (Ob.lkD (prs u)) false (ob u a)) := (sb_wt false (ob u a) na.2.2.2 (fun x hx => hP.at hx.2)).1
  refine hq k v hG ⟨k0, k1, tk, by rw [ek]; exact hw⟩ (fun h61 => ?_) (fun h61 => ?_)
  · exact MK_big h61 ek fk
  · rw [fk]; exact bw_ne h61
theorem p_notG [DecidableEq Ob] {a : Int} {Q : Int → iST → Prop} {u : iST} {E : Sp.Env} (hT : TI u) (hU : TU u) (h71 : 0 ≤ u.1 71) (na : Nd u E a) (s : Sp.Wk)
    (hq : ∀ k v, GM u v → Nd v E k → ob v k = Ob.neg (ob u a) → (u.1 61 = 0 → MK (Sp.mkNot (ob u a)) s v k) → (u.1 61 ≠ 0 → v.1 61 ≠ 0) → v.1 61 = nb u (ob u a) → Q k v) : pw_notOf a Q u := by
  refine p_notOf hT hU h71 na.1 na.2.1 na.2.2.1 (fun hn => ?_) (fun k v gv k0 k1 ek tk fk => hq k v gv ⟨k0, k1, tk, by rw [ek]; exact wt_neg na.2.2.2⟩ ek (fun h61 => MK_not h61 ek fk) (fun h61 => by rw [fk]; exact nb_ne h61) fk)
  obtain ⟨x, e, _⟩ := Ob.wt_one na.2.2.2 hn not_q (arOf_not E)
  exact ⟨x, e⟩
theorem GM_prs [DecidableEq Ob] {u v : iST} (h : GM u v) (hT : TI u) (hP : PrOk u) : PrOk v ∧ prs v = prs u := by
  have e72 := (h.1.2.2.2.2 72 (by decide)).2
  have e73 := (h.1.2.2.2.2 73 (by decide)).2
  have e74 := (h.1.2.2.2.2 74 (by decide)).1
  have hle := h.le
  refine ⟨fun i i0 i1 => ?_, ?_⟩
  · rw [e74] at i1
    rw [e72, e73]
    obtain ⟨a, b, c, d, e⟩ := hP i i0 i1
    exact ⟨a, by omega, c, by omega, by rw [h.ob hT c d]; exact e.mono h.1 hT⟩
  · unfold prs
    rw [e74]
    refine List.map_congr_left (fun i hi => ?_)
    have := List.mem_range.mp hi
    obtain ⟨a, b, c, d, _⟩ := hP (i : Int) (by omega) (by omega)
    rw [e72, e73, h.ob hT a b, h.ob hT c d]
theorem PrW.gm [DecidableEq Ob] {u v : iST} {E : Sp.Env} (h : PrW u E) (hT : TI u) (g : GM u v) : PrW v E ∧ prs v = prs u := by
  obtain ⟨a, b⟩ := GM_prs g hT h.1
  exact ⟨⟨a, by rw [b]; exact h.2⟩, b⟩
/-- the parameters of a function, for variables -/
theorem p_takeParameters [DecidableEq Ob] {d l : Int} {Q : iST → Prop} {u : iST} {E : Sp.Env} {vs : List Ob} (hT : TI u) (hU : TU u) (hD : DOk u E) (d0 : 0 ≤ d) (d1 : d < u.1 35) (l0 : 0 ≤ l) (l1 : l < u.1 8) (el : ob u l = Ob.ofList vs) (hlen : (vs.length : Int) = u.2.1 37 d) (hv : ∀ x, x ∈ vs → x.isVar = true)
    (hq : ∀ v, GZ f7P u v → (∀ k, k ≠ 74 → v.1 k = u.1 k) → (∀ k, k ≠ 72 → k ≠ 73 → v.2.1 k = u.2.1 k) → PrW v E → prs v = (prm u d).zip vs → Q v) : pw_takeParameters d l Q u := by
  obtain ⟨_, ⟨p0, p6, pp⟩, _⟩ := hD.2.2 d d0 d1
  unfold pw_takeParameters
  intro _ _ y ey _ w ew
  rw [ey] at ew
  have gw : GZ f7P u w := by rw [ew]; exact GZ_eq (GZ.rf hT hU) (fun k hk => ⟨if_neg (by omega), rfl⟩) rfl (Fx_I (by decide))
  have wn : ∀ k, k ≠ 74 → w.1 k = u.1 k := fun k hk => by rw [ew]; exact if_neg hk
  have w74 : w.1 74 = u.2.1 37 d := by rw [ew]; rfl
  have w2 : w.2 = u.2 := by rw [ew]; rfl
  clear ew
  refine pw_takeParameters_12_i (fun x1 x2 x3 v => x1 = d ∧ x2 = l ∧ GZ f7P u v ∧ v.1 = w.1 ∧ (∀ k, k ≠ 72 → k ≠ 73 → v.2.1 k = u.2.1 k) ∧ v.2.2 = u.2.2 ∧ ∃ i : Nat, x3 = (i : Int) ∧ i ≤ vs.length ∧ ∀ j : Nat, j < i → v.2.1 72 (j : Int) = u.2.1 38 (6 * d + (j : Int)) ∧ 0 ≤ v.2.1 73 (j : Int) ∧ v.2.1 73 (j : Int) < u.1 8 ∧ ob u (v.2.1 73 (j : Int)) = vs.getD j Ob.nil) ?_ ⟨rfl, rfl, gw, rfl, fun k _ _ => by rw [w2], by rw [w2], 0, rfl, Nat.zero_le _, fun j hj => by omega⟩
  intro x1 x2 x3 v hI
  obtain ⟨e1, e2, gv, vn, vr', vL, i, e3, hi, hj⟩ := hI
  rw [e1, e2, e3]
  have eov : ∀ j, ob v j = ob u j := ob_same (vr' 0 (by decide) (by decide)) (vr' 1 (by decide) (by decide)) (vr' 9 (by decide) (by decide)) (vr' 10 (by decide) (by decide)) vL
  have v8 : v.1 8 = u.1 8 := by rw [vn]; exact wn 8 (by decide)
  have v74 : v.1 74 = u.2.1 37 d := by rw [vn]; exact w74
  unfold pw_takeParameters_12b
  intro c ec _
  rw [v74] at ec
  rw [ec]
  refine ⟨fun hc => ?_, fun hc => ?_⟩
  · have hiL : i = vs.length := by omega
    have hz : prs v = (prm u d).zip vs := by
      unfold prs
      rw [v74, show (u.2.1 37 d).toNat = (prm u d).length by unfold prm; simp]
      refine rng_zip (by unfold prm; simp; omega) (fun j hj' => ?_) (fun j hj' => ?_)
      · have hj2 : j < (u.2.1 37 d).toNat := by unfold prm at hj'; simp at hj'; omega
        rw [(hj j (by omega)).1, eov, List.getD_eq_getElem?_getD]
        unfold prm
        rw [List.getElem?_map, List.getElem?_range hj2]
        rfl
      · have hj2 : j < (u.2.1 37 d).toNat := by unfold prm at hj'; simp at hj'; omega
        rw [eov]; exact (hj j (by omega)).2.2.2
    refine hq v gv (fun k hk => by rw [vn]; exact wn k hk) vr' ⟨fun j j0 j1 => ?_, fun q hq' => ?_⟩ hz
    · rw [v74] at j1
      have := hj j.toNat (by omega)
      rw [show ((j.toNat : Nat) : Int) = j by omega] at this
      have hp := pp j j0 j1
      refine ⟨by rw [this.1]; exact hp.1, by rw [this.1, v8]; exact hp.2, this.2.1, by rw [v8]; exact this.2.2.1, ?_⟩
      rw [eov, this.2.2.2, List.getD_eq_getElem?_getD, List.getElem?_eq_getElem (by omega)]
      exact Tm_leaf (isVar_leaf (hv _ (List.getElem_mem _)))
    · rw [hz] at hq'
      exact Ob.wt_leaf (isVar_leaf (hv _ (List.of_mem_zip hq').2))
  · intro _ _ _ _ c2 ec2 _ _ _ t1 et1
    rw [vr' 38 (by decide) (by decide)] at ec2
    have g1 : GZ f7P v t1 := by rw [et1]; exact GZ_eq (GZ.rf gv.1 gv.2.1) (fun k hk => ⟨rfl, if_neg (by omega)⟩) rfl (Fx_A (by decide))
    have eo1 : ∀ j, ob t1 j = ob u j := fun j => (ob_same (u := v) (v := t1) (by rw [et1]; rfl) (by rw [et1]; rfl) (by rw [et1]; rfl) (by rw [et1]; rfl) (by rw [et1]; rfl) j).trans (eov j)
    have t18 : t1.1 8 = u.1 8 := by rw [et1]; exact v8
    refine p_nthL g1.1 l0 (by omega) (by omega) (by rw [eo1, el, Ob.len_ofList]; omega) (fun k k0 k1 ek => ?_)
    rw [eo1, eo1, el, Ob.item_get, Ob.toList_ofList, show ((i : Int)).toNat = i by omega] at ek
    intro _ _ t2 et2 _
    have g2 : GZ f7P t1 t2 := by rw [et2]; exact GZ_eq (GZ.rf g1.1 g1.2.1) (fun k hk => ⟨rfl, if_neg (by omega)⟩) rfl (Fx_A (by decide))
    have n72 : ∀ j, t2.2.1 72 j = if j = (i : Int) then c2 else v.2.1 72 j := fun j => by rw [et2, et1]; rfl
    have n73 : ∀ j, t2.2.1 73 j = if j = (i : Int) then k else v.2.1 73 j := fun j => by rw [et2, et1]; rfl
    refine ⟨rfl, rfl, (gv.tr g1).tr g2, by rw [et2, et1]; exact vn, fun q a b => by rw [et2, et1]; exact (if_neg b).trans ((if_neg a).trans (vr' q a b)), by rw [et2, et1]; exact vL, i + 1, by omega, by omega, fun j hj' => ?_⟩
    rw [n72, n73]
    by_cases cj : j = i
    · rw [if_pos (by omega), if_pos (by omega), cj]
      exact ⟨ec2, k0, by omega, ek⟩
    · rw [if_neg (by omega), if_neg (by omega)]
      exact hj j (by omega)
