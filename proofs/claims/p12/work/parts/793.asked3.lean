-- deps: 792
/-! the class: asked -/
theorem hintsAsk_nil [DecidableEq Ob] (E : Sp.Env) : Sp.hintsAsk E [] = 0 := rfl
theorem pc_asked [DecidableEq Ob] {a : Int} {Q : Int → iST → Prop} {u : iST} {H : Sp.Hs} (h : HC u H []) (h32 : u.1 32 = 0) (va : VN u a) (hw : nwd false (oc u a) ≤ 1000) (hroom : u.1 29 + 3 * npr (oc u a) ≤ 160000) (h44 : u.1 44 = -1) (h46 : u.1 46 = -1) (h47 : u.1 47 = 0)
    (hq : ∀ r v, CG f8An f8Ar u v → HC v H [] → v.1 32 = 0 → v.1 29 ≤ u.1 29 + askM (oc u a) + cpH (hsA (oc u a)) → AsO H (oc u a) v r → Q r v) : pv_11_asked a Q u := by
  have hR := h.rde h32
  have hT := h.1
  generalize eo : oc u a = o at *
  have np := npr_pos o
  have cp0 := cpH_pos (hsA o)
  have ask4 : askM o ≤ 2 * npr o := askM_npr o
  have hz : npr o + 1 ≤ 2 * nwd false o := npr_nwd false o
  unfold pv_11_asked
  refine pc_isAsTold hR va (by rw [eo]; omega) (by rw [eo]; omega) h44 h46 h47 (fun r v g hv v29 hO => ?_)
  rw [eo] at v29 hO
  have hH := h.D g hv.2.2.1
  have gA : CG f8An f8Ar u v := g.mono f8D_A f8Dr_A
  have ov : oc v a = o := (g.oc hT va.1 va.2).trans eo
  rcases hO with ⟨q1, q2⟩ | ⟨q1, q2⟩
  · refine ⟨fun z => absurd q1 z, fun _ => hq 2 v gA hH hv.2.2.2.1 (by omega) (Or.inl ⟨by decide, q2⟩)⟩
  refine ⟨fun _ => ?_, fun z => by omega⟩
  obtain ⟨v47, e47⟩ := q2.hs hv.1
  intro v2 e2 _
  rw [e2]
  have hin : ∀ x, x ∈ hsA o → x ∈ Ob.toList o := fun x hx => by
    unfold hsA at hx
    split at hx
    · exact List.mem_of_mem_drop hx
    · split at hx
      · exact List.mem_of_mem_drop hx
      · cases hx
  have hcp : cpH (hsA o) ≤ npr o := by
    unfold hsA
    split
    · rw [← rr_drop1]
      have a1 := cpHt (Ob.rgt (Ob.rgt o))
      have a2 := npr_rgt (Ob.rgt o)
      have a3 := npr_rgt o
      omega
    · split
      · rw [← rr_drop2]
        have a1 := cpHt (Ob.rgt (Ob.rgt (Ob.rgt o)))
        have a2 := npr_rgt (Ob.rgt (Ob.rgt o))
        have a3 := npr_rgt (Ob.rgt o)
        have a4 := npr_rgt o
        omega
      · exact np
  refine pc_hintsAsked hv.1 hv.2.1 hH.2.2.1 hH.2.2.2.1 hv.2.2.1 hv.2.2.2.2 v47 e47 (fun x hx => hnW_of hw (by omega) (hin x hx)) hv.2.2.2.1 (by omega) (fun w gw w32 w29 hind => ?_)
  have hHw := hH.a gw
  have gg : CG f8An f8Ar u w := gA.tr (gw.mono f8a_A f8p_A)
  have wn : ∀ j, 44 ≤ j → j ≤ 47 → w.1 j = v.1 j := fun j h1 h2 => gw.2.2.1 j (by unfold f8a f8Yn; simp only [Bool.or_eq_false_iff, decide_eq_false_iff_not]; omega)
  have hAw := q2.up hv.1 gw wn
  refine ⟨fun hne => hq _ w gg hHw w32 (by omega) (Or.inl ⟨hne, fun fuel => ?_⟩), fun h0 => ?_⟩
  · have hr := hintsGo_range (H.env []) (hsA o) false false 0 (Or.inl rfl)
    have hr : Sp.hintsAsk (H.env []) (hsA o) = 0 ∨ Sp.hintsAsk (H.env []) (hsA o) = 2 ∨ Sp.hintsAsk (H.env []) (hsA o) = 3 := hr
    have nil : hsA o = [] → False := fun e => hne (by rw [e]; rfl)
    rcases q2 with ⟨q, t⟩ | ⟨q, t⟩ | ⟨k, q, t⟩ | ⟨q, t⟩ | ⟨q, t⟩ | ⟨q, t⟩ | ⟨q, t⟩
    · exact (nil (hsA_0 (fun z => Ob.sym_ne (by decide) (q.1.symm.trans z)) (fun z => Ob.sym_ne (by decide) (q.1.symm.trans z)))).elim
    · exact (nil (hsA_0 (fun z => Ob.sym_ne (by decide) (q.1.symm.trans z)) (fun z => Ob.sym_ne (by decide) (q.1.symm.trans z)))).elim
    · obtain ⟨p1, p2, p3, p4, p5⟩ := q
      rw [p5] at e47
      have key : (k = 2 → Ob.isName (Ob.item o 1) = true) → Sp.RanT k H fuel o (Sp.nothing H) := fun hk => by
        rw [← e47] at hr hne
        by_cases h2 : Sp.hintsAsk (H.env []) ((Ob.toList o).drop (k + 1)) = 2
        · exact RanT_1 (fun z => z.2.2 h2)
        · exact (RanT_3 ⟨p2, hk, h2⟩ p3.2).1 (Or.inl (by omega)) rfl
      rcases p1 with ⟨p, pk⟩ | ⟨p, pk, pn⟩
      · rw [pk] at key
        exact Ran_prove p (key (fun z => by cases z))
      · rw [pk] at key
        exact Ran_defthm p (key (fun _ => pn.2.2))
    · exact (nil (hsA_0 (fun z => Ob.sym_ne (by decide) (q.1.symm.trans z)) (fun z => Ob.sym_ne (by decide) (q.1.symm.trans z)))).elim
    · exact (nil (hsA_0 (fun z => Ob.sym_ne (by decide) (q.1.symm.trans z)) (fun z => Ob.sym_ne (by decide) (q.1.symm.trans z)))).elim
    · rcases q.1 with e | e
      · exact (nil (hsA_0 (fun z => Ob.sym_ne (by decide) (e.symm.trans z)) (fun z => Ob.sym_ne (by decide) (e.symm.trans z)))).elim
      · exact (nil (hsA_0 (fun z => Ob.sym_ne (by decide) (e.symm.trans z)) (fun z => Ob.sym_ne (by decide) (e.symm.trans z)))).elim
    · exact (nil (hsA_0 (fun z => Ob.sym_ne (by decide) (q.1.symm.trans z)) (fun z => Ob.sym_ne (by decide) (q.1.symm.trans z)))).elim
  · have h0 := Decidable.not_not.mp h0
    have ow : oc w a = o := (gw.oc hv.1 (va.up g).1 (va.up g).2).trans ov
    refine pc_nameAsked hHw ((va.up g).up gw) (by rw [ow]; exact hAw) (fun s hs => hq s w gg hHw w32 (by omega) ?_)
    rw [ow] at hs
    rcases hs with p | ⟨p1, p2⟩
    · exact Or.inl p
    · exact Or.inr ⟨p1, hAw, h0, hind h0, p2⟩
/-- the induction that is asked for -/
theorem InWd.c [DecidableEq Ob] {v : iST} {E : Sp.Env} {hs : List Ob} (h : InWd v E hs) : IndC v E (Sp.indOf E hs) := by
  rcases h with ⟨h1, h2⟩ | ⟨x, h1, h2, h3, h4⟩
  · refine Or.inl ⟨h1, ?_⟩
    unfold Sp.indOf
    rw [h2]
  · unfold Sp.indAsk at h4
    by_cases c : 1 ≤ Ob.len (Ob.item x 1) ∧ Ob.isName (Ob.lft (Ob.item x 1)) = true ∧ Sp.areVars (Ob.toList (Ob.rgt (Ob.item x 1))) = true
    · rw [if_pos c] at h4
      cases e : E.dfn (Ob.lft (Ob.item x 1)) with
      | none => rw [e] at h4; cases h4
      | some D =>
        rw [e] at h4
        have h4 : (if D.meas.isSome = true ∧ (D.params.length : Int) = Ob.len (Ob.rgt (Ob.item x 1)) then (0 : Int) else 2) = 0 := h4
        by_cases c2 : D.meas.isSome = true ∧ (D.params.length : Int) = Ob.len (Ob.rgt (Ob.item x 1))
        · have e' : E.defs.find? (fun d => decide (d.name = Ob.lft (Ob.item x 1))) = some D := e
          have en0 : decide (D.name = Ob.lft (Ob.item x 1)) = true := List.find?_some (p := fun d : Sp.Dfn => decide (d.name = Ob.lft (Ob.item x 1))) e'
          have en : D.name = Ob.lft (Ob.item x 1) := of_decide_eq_true en0
          have hl : Ob.len (Ob.rgt (Ob.item x 1)) ≠ -1 := by omega
          have ei : Ob.item x 1 = .pr (Ob.lft (Ob.item x 1)) (Ob.rgt (Ob.item x 1)) := by
            cases e3 : Ob.item x 1 with
            | var y =>
              have := c.1
              rw [e3, Ob.len_var] at this
              split at this <;> omega
            | op p q => rfl
          refine Or.inr ⟨D, Ob.toList (Ob.rgt (Ob.item x 1)), ?_, h1, ?_, by rw [en]; exact e, ?_, fun y hy => ?_⟩
          · unfold Sp.indOf
            rw [h3]
            show (match E.dfn (Ob.lft (Ob.item x 1)) with | some D => some (D, Ob.toList (Ob.rgt (Ob.item x 1))) | none => none) = _
            rw [e]
          · rw [h2, en, Ob.ofList_toList _ hl]
            exact ei
          · have := toList_len' hl
            omega
          · have hv := c.2.2
            unfold Sp.areVars at hv
            exact List.all_eq_true.mp (Bool.and_eq_true_iff.mp hv).1 y hy
        · rw [if_neg c2] at h4; cases h4
    · rw [if_neg c] at h4; cases h4
/-- nothing is given: nothing is proved -/
theorem pc_prove0 [DecidableEq Ob] {Q : iST → Prop} {u : iST} (hT : CT u) (h13 : u.1 13 = 0) (hq : ∀ v, CG (fun k => decide (15 ≤ k ∧ k ≤ 16)) f80 u v → v.2 = u.2 → (∀ k, k ≠ 15 → k ≠ 16 → v.1 k = u.1 k) → v.1 15 = 0 → Q v) : pv_4_prove 0 Q u := by
  unfold pv_4_prove
  intro _ y1 e1 y2 e2
  have g1 : CG (fun k => decide (15 ≤ k ∧ k ≤ 16)) f80 u y1 := by rw [e1]; exact CG_I hT (by decide) (by decide)
  have g2 : CG (fun k => decide (15 ≤ k ∧ k ≤ 16)) f80 y1 y2 := by rw [e2]; exact CG_I g1.1 (by decide) (by decide)
  have yn : ∀ k, k ≠ 15 → k ≠ 16 → y2.1 k = u.1 k := fun k h1 h2 => by rw [e2, iIc_ne _ _ h1, e1, iIc_ne _ _ h2]
  have fin := hq y2 (g1.tr g2) (by rw [e2, e1]; rfl) yn (by rw [e2, iIc_at])
  refine fo_v_4_prove_12 ?_
  unfold pv_4_prove_12b
  intro v1 ev1 _
  exact ⟨fun _ => fin, fun z => absurd (by rw [ev1, yn 13 (by decide) (by decide), h13]; exact Int.le_refl _) z⟩
