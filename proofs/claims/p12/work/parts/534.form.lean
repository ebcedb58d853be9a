-- deps: 533
/-! the reference: the form of a PROOF -/
def trm [DecidableEq Ob] (E : Sp.Env) (l : List Ob) : Bool := l.all (fun x => (Ob.rdT (Sp.arOf E) x).isSome)
theorem p_areTerms [DecidableEq Ob] {o a n : Int} {Q : Int → iST → Prop} {u : iST} {E : Sp.Env} (hT : TI u) (hU : TU u) (hD : DOk u E) (h57 : u.1 57 = -1) (h71 : 0 ≤ u.1 71) (o0 : 0 ≤ o) (o1 : o < u.1 8) (a0 : 0 ≤ a) (hn : 0 ≤ n)
    (hq : ∀ r v, GM u v → v.1 61 = u.1 61 → (r = 0 ∨ r = 1) → bq r (decide ((ob u o).len = n) && trm E ((Ob.toList (ob u o)).drop a.toNat)) → Q r v) : pw_areTerms o a n Q u := by
  unfold pw_areTerms
  refine p_lengthOf hT hU o0 o1 ⟨fun hl => ?_, fun hl _ => hq 0 u (GM.rf hT hU) rfl (Or.inl rfl) (bq0 (by rw [decide_eq_false hl]; rfl))⟩
  have hne : (ob u o).len ≠ -1 := by omega
  have hll := Ob.len_toList hne
  rw [decide_eq_true hl] at hq
  refine pw_areTerms_14_i (fun x1 x3 x4 v => x1 = o ∧ x3 = n ∧ a ≤ x4 ∧ GM u v ∧ v.1 61 = u.1 61 ∧ trm E ((Ob.toList (ob u o)).drop a.toNat) = trm E ((Ob.toList (ob u o)).drop x4.toNat)) ?_ ⟨rfl, rfl, Int.le_refl _, GM.rf hT hU, rfl, rfl⟩
  intro x1 x3 x4 v hI
  obtain ⟨e1, e3, ha, gv, v61, ht⟩ := hI
  rw [e1, e3]
  have hTv := gv.1.1
  have hUv := gv.1.2.1
  have hle := gv.le
  have eo := gv.ob hT o0 o1
  unfold pw_areTerms_14b
  refine ⟨fun hc _ => hq 1 v gv v61 (Or.inr rfl) (bq1 ?_), fun hc => ?_⟩
  · rw [Bool.true_and, ht, List.drop_eq_nil_of_le (by omega)]; rfl
  · refine p_nthL hTv o0 (by omega) (by omega) (by rw [eo]; omega) (fun k k0 k1 ek => ?_)
    rw [eo, Ob.item_get] at ek
    have hlt : x4.toNat < (Ob.toList (ob u o)).length := by omega
    have Dv : DOk v E := hD.mono hT gv.1 (DSm.of gv.1.2.2.2.2 (by decide) (by decide) (by decide) (by decide) (by decide) (by decide) (by decide))
    refine p_termE hTv hUv Dv (by rw [(gv.1.2.2.2.2 57 (by decide)).1]; exact h57) k0 k1 (by rw [gv.2.1]; exact h71) (fun f w gw w61 hf => ?_)
    rw [ek] at hf
    have hd : trm E ((Ob.toList (ob u o)).drop x4.toNat) = ((Ob.rdT (Sp.arOf E) ((Ob.toList (ob u o)).getD x4.toNat Ob.nil)).isSome && trm E ((Ob.toList (ob u o)).drop (x4 + 1).toNat)) := by
      rw [drop_cons _ _ Ob.nil hlt, show (x4 + 1).toNat = x4.toNat + 1 by omega]; rfl
    refine ⟨fun hz _ => ⟨rfl, rfl, by omega, gv.tr gw, w61.trans v61, ?_⟩, fun hz _ => hq 0 w (gv.tr gw) (w61.trans v61) (Or.inl rfl) (bq0 ?_)⟩
    · obtain ⟨_, _, e⟩ := hf.resolve_left (fun q => hz q.2)
      rw [ht, hd, e]; rfl
    · rcases hf with ⟨q, _⟩ | ⟨q, _⟩
      · rw [Bool.true_and, ht, hd, q]; rfl
      · have := q.1; have := Decidable.not_not.mp hz; omega
theorem trm_at [DecidableEq Ob] {E : Sp.Env} {o : Ob} {n : Nat} (hl : o.len = (n : Int) + 1) : trm E ((Ob.toList o).drop 1) = Sp.termsAt E o n := by
  have hne : o.len ≠ -1 := by omega
  have hll := Ob.len_toList hne
  have hlen : (Ob.toList o).length = n + 1 := by omega
  have e : (Ob.toList o).drop 1 = (List.range n).map (fun k : Nat => Ob.item o (k + 1)) := by
    refine List.ext_getElem? (fun i => ?_)
    rw [List.getElem?_drop]
    by_cases hi : i < n
    · rw [List.getElem?_map, List.getElem?_range hi]
      show _ = some (Ob.item o (i + 1))
      rw [Ob.item_get, List.getD_eq_getElem?_getD, show 1 + i = i + 1 by omega, List.getElem?_eq_getElem (by omega)]
      rfl
    · rw [List.getElem?_eq_none (by omega), List.getElem?_eq_none (by simp; omega)]
  unfold trm Sp.termsAt Sp.rdAt
  rw [e, List.all_map]
  rfl
theorem p_isTermList [DecidableEq Ob] {o : Int} {Q : Int → iST → Prop} {u : iST} {E : Sp.Env} (hT : TI u) (hU : TU u) (hD : DOk u E) (h57 : u.1 57 = -1) (h71 : 0 ≤ u.1 71) (o0 : 0 ≤ o) (o1 : o < u.1 8)
    (hq : ∀ r v, GM u v → v.1 61 = u.1 61 → bq r (decide ((ob u o).len ≠ -1) && trm E (Ob.toList (ob u o))) → Q r v) : pw_isTermList o Q u := by
  unfold pw_isTermList
  have hlow := Ob.len_low (ob u o)
  refine p_lengthOf hT hU o0 o1 ⟨fun hl _ => hq 0 u (GM.rf hT hU) rfl (bq0 (by rw [decide_eq_false (not_not_intro hl)]; rfl)), fun hl => ?_⟩
  refine p_areTerms hT hU hD h57 h71 o0 o1 (Int.le_refl _) (by omega) (fun r v gv v61 _ hr => ?_)
  rw [decide_eq_true (rfl : (ob u o).len = (ob u o).len), Bool.true_and, show ((0 : Int)).toNat = 0 from rfl, List.drop_zero] at hr
  refine ⟨fun hz _ => hq 0 v gv v61 (bq0 ?_), fun hz _ => hq 1 v gv v61 (bq1 ?_)⟩
  · rw [hr.f hz, Bool.and_false]
  · rw [hr.t hz, decide_eq_true hl]; rfl
theorem p_told [DecidableEq Ob] {a : Int} {Q : Int → iST → Prop} {u : iST} {E : Sp.Env} (hT : TI u) (hU : TU u) (hD : DOk u E) (hN : Nd u E a)
    (hq : ∀ k v, GZ f7E u v → v.1 60 = u.1 60 → (Sp.toldV (ob u a) = none ∧ k = -1) ∨ (0 ≤ k ∧ k < v.1 8 ∧ Sp.toldV (ob u a) = some (ob v k)) → Q k v) : pw_told a Q u := by
  have a0 := hN.1
  have a1 := hN.2.1
  have no : (Ob.isCall (ob u a) && Ob.isBase (Ob.lft (ob u a)) && (Ob.toList (Ob.rgt (ob u a))).all Ob.isConst) = false → Q (-1) u := fun h => hq (-1) u (GZ.rf hT hU) rfl (Or.inl ⟨by unfold Sp.toldV; rw [h]; rfl, rfl⟩)
  unfold pw_told
  refine p_isCall hT hU a0 a1 (fun b hb => ⟨fun hz => no (by rw [hb.f hz]; rfl), fun hz => ?_⟩)
  have hc := hb.t hz
  obtain ⟨F, l, e, h1, h2, h3, h4⟩ := hN.call hc
  have hp : (ob u a).isPr = true := by rw [e]; rfl
  obtain ⟨f0, f1, _, _, ef, _, _⟩ := ob_lft hT a0 a1 hp
  have hF : Ob.lft (ob u a) = F := by rw [e]; rfl
  have eF : ob u (u.2.1 0 a) = F := ef.symm.trans hF
  intro _ _ y ey _
  rw [ey]
  refine ⟨fun h16 => no ?_, fun h16 => ?_⟩
  · have : Ob.isBase (Ob.lft (ob u a)) = false := by
      cases eb : Ob.isBase (Ob.lft (ob u a)) with
      | false => rfl
      | true =>
        rw [ef] at eb
        have := base_is hT hU f0 (by omega) eb
        omega
    rw [this, hc]; rfl
  have h3' : 3 ≤ u.2.1 0 a := by
    by_cases hb' : F.isBase = true
    · exact (base_is hT hU f0 (by omega) (by rw [eF]; exact hb')).1
    · have har : Sp.arOf E F ≠ -1 := by rw [h3]; omega
      have hs := (arOf_ne har (by simpa using hb')).1
      obtain ⟨D, hDf⟩ := Option.isSome_iff_exists.mp hs
      obtain ⟨m1, m2⟩ := dfn_mem hDf
      have hnm := hD.names D m1
      rw [m2, ← eF] at hnm
      have := (isName_iff hT hU f0 (by omega) (isName_base hnm).2.1).mp hnm
      omega
  have hbase : Ob.isBase (Ob.lft (ob u a)) = true := by rw [ef]; exact base_nd hT hU h3' (by omega)
  refine p_areConstants hT hU hN hc (fun b2 hb2 => ⟨fun hz2 => ?_, fun hz2 => no (by rw [hb2.f (Decidable.not_not.mp hz2), hc, hbase]; rfl)⟩)
  have hall := hb2.t hz2
  have hcond : (Ob.isCall (ob u a) && Ob.isBase (Ob.lft (ob u a)) && (Ob.toList (Ob.rgt (ob u a))).all Ob.isConst) = true := by rw [hc, hbase, hall]; rfl
  have k3 := kat hT hU 3 (by decide) (by decide) rfl f0 (show u.2.1 0 a < u.1 8 by omega)
  rw [← ef] at k3
  intro _ _ y2 ey2 _
  rw [ey2]
  refine ⟨fun hn3 => ?_, fun hn3 => ?_⟩
  · intro _ _ y3 ey3 _
    rw [ey3]
    refine p_constantValue hT hU hN hc (by omega) (by omega) ef hall (fun k v gv v60 hk => hq k v gv v60 ?_)
    have et : Sp.toldV (ob u a) = Ob.base (Ob.lft (ob u a)) (Ob.valOf (Ob.item (ob u a) 1)) (Ob.valOf (Ob.item (ob u a) 2)) := by
      unfold Sp.toldV
      rw [if_pos hcond, if_neg (fun z => hn3 (k3.mpr z))]
    rw [et]
    exact hk
  · have hif : Ob.lft (ob u a) = Ob.ifS := k3.mp (Decidable.not_not.mp hn3)
    have hcall : (ob u a).isCallOf Ob.ifS = true := by
      rw [e, Ob.isCallOf_pr]
      exact decide_eq_true (hF.symm.trans hif)
    have et : Sp.toldV (ob u a) = some (if Ob.valOf (Ob.item (ob u a) 1) = Ob.nil then Ob.valOf (Ob.item (ob u a) 3) else Ob.valOf (Ob.item (ob u a) 2)) := by
      unfold Sp.toldV
      rw [if_pos hcond, if_pos hif]
    have hl3 : l.length = 3 := by
      have : F = Ob.ifS := hF.symm.trans hif
      rw [this, arOf_ifS] at h3
      omega
    have hco : ∀ i : Nat, i < 3 → (Ob.item (ob u a) (i + 1)).isConst = true := fun i hi => by
      rw [e, Ob.rgt_pr, Ob.toList_ofList] at hall
      rw [e, Ob.item_call, List.getD_eq_getElem?_getD, List.getElem?_eq_getElem (by omega)]
      exact List.all_eq_true.mp hall _ (List.getElem_mem _)
    have last : ∀ i : Nat, 1 ≤ i → i ≤ 2 → some (Ob.valOf (Ob.item (ob u a) (i + 1))) = Sp.toldV (ob u a) → pw_told_60 Q a ((i : Int) + 1) u := by
      intro i i1 i2 hs
      unfold pw_told_60
      refine p_it hT hN hcall ifS_q (arOf_ifS E) (by omega) (by omega) (by decide) (fun j nj ej => ?_)
      rw [show ((i : Int) + 1).toNat = i + 1 by omega] at ej
      refine p_valueOf hT hU nj.1 nj.2.1 nj.2.2.1 (by rw [ej]; exact hco i (by omega)) (fun r r0 r1 er => ?_)
      rw [ej] at er
      exact hq r u (GZ.rf hT hU) rfl (Or.inr ⟨r0, r1, by rw [← hs, er]⟩)
    refine p_it hT hN hcall ifS_q (arOf_ifS E) (by decide) (by decide) (by decide) (fun j nj ej => ?_)
    have ej : ob u j = Ob.item (ob u a) 1 := ej
    refine p_valueOf hT hU nj.1 nj.2.1 nj.2.2.1 (by rw [ej]; exact hco 0 (by decide)) (fun r r0 r1 er => ?_)
    rw [ej] at er
    have kr := kat hT hU 0 (by decide) (by decide) rfl r0 r1
    rw [er] at kr
    refine ⟨fun hr0 => ?_, fun hr0 => ?_⟩
    · exact last 1 (by decide) (by decide) (by rw [et, if_neg (fun z => hr0 (kr.mpr z))])
    · exact last 2 (by decide) (by decide) (by rw [et, if_pos (kr.mp (Decidable.not_not.mp hr0))])
