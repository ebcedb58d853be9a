-- deps: 484
theorem parts_const [DecidableEq Ob] {c : Ob} (h : c.isConst = true) : Ob.parts c = [c] := by
  cases c with
  | var x => rfl
  | op a b =>
    show (if a = Ob.quote then [Ob.pr a b] else _) = _
    rw [if_pos (of_decide_eq_true h)]
theorem parts_list [DecidableEq Ob] : ∀ (l : List Ob) (x : Ob), x ∈ Ob.ptM true (Ob.ofList l) → ∃ a, a ∈ l ∧ x ∈ Ob.parts a
  | [], x, h => by have : x ∈ ([] : List Ob) := h; cases this
  | a :: l, x, h => by
    have h : x ∈ Ob.ptM false a ++ Ob.ptM true (Ob.ofList l) := h
    rcases List.mem_append.mp h with z | z
    · exact ⟨a, List.mem_cons_self, z⟩
    · obtain ⟨b, hb, hx⟩ := parts_list l x z
      exact ⟨b, List.mem_cons_of_mem _ hb, hx⟩
theorem no_vars [DecidableEq Ob] {f : Ob} {l : List Ob} (hq : f ≠ Ob.quote) (h : l.all Ob.isConst = true) (x : Ob) (hx : x ∈ Ob.parts (.pr f (Ob.ofList l))) : Ob.isVar x = false := by
  have hx : x ∈ (if f = Ob.quote then [Ob.pr f (Ob.ofList l)] else Ob.pr f (Ob.ofList l) :: Ob.ptM true (Ob.ofList l)) := hx
  rw [if_neg hq] at hx
  rcases List.mem_cons.mp hx with e | e
  · rw [e]; rfl
  · obtain ⟨a, ha, hxa⟩ := parts_list l x e
    have hc := List.all_eq_true.mp h a ha
    rw [parts_const hc] at hxa
    rw [List.mem_singleton.mp hxa]
    rcases Ob.kinds a with z | z | z
    · exact z.2.2
    · rw [z.1] at hc; cases hc
    · rw [z.1] at hc; cases hc
theorem f7E_92 [DecidableEq Ob] : ∀ k, 92 ≤ k → f7E k = false := by
  intro k h
  unfold f7E
  simp only [Bool.or_eq_false_iff, decide_eq_false_iff_not]
  omega
theorem rw_apply [DecidableEq Ob] {u0 : iST} {E : Sp.Env} {Q : Int → iST → Prop} {d : Nat} (hT0 : TI u0) (hE : EnvS u0 E) (ih : RwG u0 E Q d) {v0 v : iST} {R : EStateM.Result Unit Sp.Wk Ob} {tr : Int} {s : Sp.Wk} {k : Int} (hO : Owe u0 E Q v0 R) (hd : v0.1 102 + 1 + (d : Int) = 60) (hA : AJ u0 E v0 v tr s k) (hif : Ob.lft (ob v k) ≠ Ob.ifS)
    (hR : R = Sp.bd (Sp.rwApply E (Sp.rw E d (cxL v0)) (cxL v0) (ob v k) (decide (tr ≠ 0))) (fun y => Sp.ret (Sp.fin (decide (tr ≠ 0)) y)) s) : pw_apply (v0.1 102) (fun w => pw_rewritten_21 Q w) v := by
  have hA' := hA
  obtain ⟨hI, h61, h104, h109, h92, nk, hc⟩ := hA
  have hT := hI.2.1.1.1
  have hU := hI.2.1.1.2.1
  have hEv := hI.env hT0 hE
  obtain ⟨hD, h57, hW, hTh⟩ := hEv
  obtain ⟨F, l, e, h1, h2, h3, h4⟩ := nk.call hc
  have k0 := nk.1
  have k1 := nk.2.1
  obtain ⟨l0, l1, _, _, eL, _, _⟩ := ob_lft hT k0 k1 (by rw [e]; rfl)
  have eF : Ob.lft (ob v k) = F := by rw [e]; rfl
  have el : Ob.toList (Ob.rgt (ob v k)) = l := by rw [e]; exact Ob.toList_ofList l
  unfold pw_apply
  intro _ _ x ex _ _ _ y ey _
  rw [h92] at ex
  rw [ex] at ey
  rw [ex, ey]
  refine p_functionOf (fun rr hrr => ?_)
  have hfn := FnOf_dfn hT hU hD h57 l0 (by omega) hrr
  rw [← eL, eF] at hfn
  -- which function
  have hwh : (100 ≤ rr ∧ F.isBase = false ∧ (E.dfn F).isSome = true) ∨ (4 ≤ rr ∧ rr ≤ 16 ∧ rr = v.2.1 0 k ∧ E.dfn F = none) := by
    rcases hfn with ⟨_, z2, z3⟩ | ⟨z1, z2, z3, z4⟩ | ⟨dd, d0, d1, d2, d3, d4, d5⟩
    · have := (arOf_ne (E := E) (f := F) (by omega) z3).1
      rw [z2] at this
      cases this
    · refine Or.inr ⟨?_, z2, z3, z4⟩
      by_cases c : rr = 3
      · exfalso
        refine hif ?_
        rw [eL, ← z3, c]
        exact (kn hT hU 3 (by decide) (by decide) rfl).2.2
      · omega
    · exact Or.inl ⟨by omega, d5, by rw [d4]; rfl⟩
  have hx3 : (100 ≤ rr ∧ (Ob.lft (ob v k)).isBase = false) ∨ (4 ≤ rr ∧ rr ≤ 16 ∧ rr = v.2.1 0 k) := by
    rw [eF]
    exact hwh.imp (fun z => ⟨z.1, z.2.1⟩) (fun z => ⟨z.1, z.2.1, z.2.2.1⟩)
  refine p_areConstants hT hU nk hc (fun r4 hr4 => ?_)
  rw [el] at hr4
  refine ⟨fun hz => ?_, fun hz => ?_⟩
  · refine rw_86 hT0 hE ih hO hd hA' hx3 ?_
    rw [hR]
    unfold Sp.rwApply
    rw [el, if_neg (by rw [hr4.f hz]; decide)]
  · have hall := hr4.t hz
    -- what comes behind evaluation
    have rest : ∀ (w : iST) (s' : Sp.Wk), GZ f7E v w → w.1 60 + (s'.1 : Int) = w.1 59 → R = Sp.bd (Sp.rwRest E (Sp.rw E d (cxL v0)) (cxL v0) (ob v k) (decide (tr ≠ 0))) (fun y => Sp.ret (Sp.fin (decide (tr ≠ 0)) y)) s' → pw_apply_86 (fun w => pw_rewritten_21 Q w) (v0.1 102) k rr w := by
      intro w s' gw hs hR2
      have q : ∀ n, 92 ≤ n → w.1 n = v.1 n ∧ w.2.1 n = v.2.1 n := fun n hn => gw.2.2.2.2 n (f7E_92 n hn)
      have kw : RK (v0.1 102) (v0.1 104) (v0.1 109) v w := RK_of gw f7E_J (gw.2.2.2.2 71 (by decide)).1 (fun k a _ => f7E_92 k a) _ _ _
      obtain ⟨nkw, ekw⟩ := nk.mono hT gw
      have iw : InJ u0 E v0 w tr s' := hI.keep kw (Int.le_refl _) (Int.le_refl _) (Int.le_refl _) (q 102 (by decide)).1 ((gw.2.2.2.2 64 (by decide)).1.trans hI.2.2.2.1) hs (by rw [(q 93 (by decide)).2]; exact hI.2.2.2.2.2.1)
      refine rw_86 hT0 hE ih hO hd ⟨iw, (gw.2.2.2.2 61 (by decide)).1.trans h61, (q 104 (by decide)).1.trans h104, (q 109 (by decide)).1.trans h109, by rw [(q 92 (by decide)).2]; exact h92, nkw, by rw [ekw]; exact hc⟩ ?_ (by rw [ekw]; exact hR2)
      rw [ekw, (gw.2.2.1.2.1 k k0 k1).1]
      exact hx3
    have done : ∀ (w : iST) (s' : Sp.Wk) (r : Int), GZ f7E v w → w.1 60 + (s'.1 : Int) = w.1 59 → 0 ≤ r → r < w.1 8 → R = .ok (Sp.fin (decide (tr ≠ 0)) (Ob.constOf (ob w r))) s' → pw_apply_69 (fun w => pw_rewritten_21 Q w) (v0.1 102) k rr r w := by
      intro w s' r gw hs r0 r1 hR2
      have q : ∀ n, 92 ≤ n → w.1 n = v.1 n ∧ w.2.1 n = v.2.1 n := fun n hn => gw.2.2.2.2 n (f7E_92 n hn)
      have kw : RK (v0.1 102) (v0.1 104) (v0.1 109) v w := RK_of gw f7E_J (gw.2.2.2.2 71 (by decide)).1 (fun k a _ => f7E_92 k a) _ _ _
      have iw : InJ u0 E v0 w tr s' := hI.keep kw (Int.le_refl _) (Int.le_refl _) (Int.le_refl _) (q 102 (by decide)).1 ((gw.2.2.2.2 64 (by decide)).1.trans hI.2.2.2.1) hs (by rw [(q 93 (by decide)).2]; exact hI.2.2.2.2.2.1)
      unfold pw_apply_69
      refine ⟨fun z => by omega, fun _ => ?_⟩
      refine p_constantOf gw.1 gw.2.1 r0 r1 (fun c z hRz c0 c1 ec => ?_)
      have hG := hRz.gm
      refine rw_end hO (iw.gm hG) ((hG.n 104 (by decide)).trans ((q 104 (by decide)).1.trans h104)) ((hG.n 109 (by decide)).trans ((q 109 (by decide)).1.trans h109)) ⟨c0, c1, by rw [ec]; exact Tm_constOf z _, by rw [ec]; exact wt_constOf _ _⟩ (fun _ => by rw [ec]; exact hR2) (fun z2 => absurd ((hRz.2.2.2.2 61 (by decide)).1.trans ((gw.2.2.2.2 61 (by decide)).1.trans h61)) z2)
    refine ⟨fun hge => ?_, fun hlt => ?_⟩
    · obtain ⟨_, hb, hsome⟩ := hwh.resolve_right (fun z => by omega)
      obtain ⟨D, hDf⟩ := Option.isSome_iff_exists.mp hsome
      have hR2 : R = match Sp.ev E 300 (fun x => x) (ob v k) (s.1, 100, s.2) with
          | .ok y s' => .ok (Sp.fin (decide (tr ≠ 0)) (Ob.constOf y)) (s'.1, s'.2.2 + 2)
          | .error w s' => if w = 1 then .error () (s'.1, s'.2.2) else Sp.bd (Sp.rwRest E (Sp.rw E d (cxL v0)) (cxL v0) (ob v k) (decide (tr ≠ 0))) (fun y => Sp.ret (Sp.fin (decide (tr ≠ 0)) y)) (s'.1, s'.2.2) := by
        have e0 : Sp.rwApply E (Sp.rw E d (cxL v0)) (cxL v0) (ob v k) (decide (tr ≠ 0)) s = match Sp.ev E 300 (fun x => x) (ob v k) (s.1, 100, s.2) with
            | EStateM.Result.ok y s' => EStateM.Result.ok (Ob.constOf y) (s'.1, s'.2.2 + 2)
            | EStateM.Result.error w s' => if w = 1 then EStateM.Result.error () (s'.1, s'.2.2) else Sp.rwRest E (Sp.rw E d (cxL v0)) (cxL v0) (ob v k) (decide (tr ≠ 0)) (s'.1, s'.2.2) := by
          unfold Sp.rwApply
          rw [el, if_pos hall, eF, hDf]
          rfl
        rw [hR]
        unfold Sp.bd
        rw [e0]
        cases Sp.ev E 300 (fun x => x) (ob v k) (s.1, 100, s.2) with
        | ok a s' => rfl
        | error w s' =>
          by_cases c : w = 1
          · simp only [if_pos c]
          · simp only [if_neg c]
      refine p_evaluated hT hU hD h57 hW nk.1 nk.2.1 nk.2.2.1 nk.2.2.2 (fun x hx => no_vars h1 hall x (by rw [← e]; exact hx)) (s := (s.1, 100, s.2)) hI.2.2.2.2.1 (fun _ => rfl) (fun z => absurd z (by decide)) (fun r s' w hev gw hs w89 r0 r1 => ?_) (fun c s' w hev gw hs hc0 w89 => ?_)
      · rw [hev] at hR2
        unfold pw_apply_47
        refine ⟨fun z => by omega, fun _ => ?_⟩
        intro z ez _
        rw [ez, w89]
        exact ⟨fun _ => done w (s'.1, s'.2.2 + 2) r gw hs r0 r1 hR2, fun z => absurd z (by decide)⟩
      · rw [hev] at hR2
        unfold pw_apply_47
        refine ⟨fun z => by omega, fun _ => ?_⟩
        intro z ez _
        rw [ez, w89]
        refine ⟨fun hc1 => ?_, fun hc1 => ?_⟩
        · have hR3 : R = Sp.bd (Sp.rwRest E (Sp.rw E d (cxL v0)) (cxL v0) (ob v k) (decide (tr ≠ 0))) (fun y => Sp.ret (Sp.fin (decide (tr ≠ 0)) y)) (s'.1, s'.2.2) := hR2.trans (if_neg hc1)
          unfold pw_apply_69
          exact ⟨fun _ => rest w (s'.1, s'.2.2) gw hs hR3, fun z => absurd rfl z⟩
        · have hR3 : R = .error () (s'.1, s'.2.2) := hR2.trans (if_pos (Decidable.not_not.mp hc1))
          refine p_fail gw.1 gw.2.1 (fun z hz hzn hz2 hz61 => ?_)
          refine hO.2 z _ hR3 (hI.1.tr (hI.2.1.1.tr ((gw.mono f7E_J).tr (hz.1.mono f7M_J)))) ?_ (by rw [hzn 64 (by decide), (gw.2.2.2.2 64 (by decide)).1]; exact hI.2.2.2.1) ?_
          · unfold StL
            rw [hzn 60 (by decide), hzn 59 (by decide)]
            exact hs
          · rw [hz61, (gw.2.2.2.2 61 (by decide)).1, if_neg (not_not_intro h61)]
            decide
    · obtain ⟨f4, f16, ef, hnone⟩ := hwh.resolve_left (fun z => by omega)
      have hR2 : R = match Ob.base F (Ob.valOf (Ob.item (ob v k) 1)) (Ob.valOf (Ob.item (ob v k) 2)) with
          | some y => .ok (Sp.fin (decide (tr ≠ 0)) (Ob.constOf y)) (s.1, s.2 + 3)
          | none => Sp.bd (Sp.rwRest E (Sp.rw E d (cxL v0)) (cxL v0) (ob v k) (decide (tr ≠ 0))) (fun y => Sp.ret (Sp.fin (decide (tr ≠ 0)) y)) s := by
        rw [hR]
        unfold Sp.rwApply
        rw [el, if_pos hall, eF, hnone]
        show Sp.bd (match Ob.base F (Ob.valOf (Ob.item (ob v k) 1)) (Ob.valOf (Ob.item (ob v k) 2)) with | some v => _ | none => _) _ s = _
        cases Ob.base F (Ob.valOf (Ob.item (ob v k) 1)) (Ob.valOf (Ob.item (ob v k) 2)) <;> rfl
      refine p_constantValue hT hU nk hc f4 f16 (by rw [ef]; exact eL) (by rw [el]; exact hall) (fun r w gw w60 hr => ?_)
      rw [eF] at hr
      have hs : w.1 60 + (s.1 : Int) = w.1 59 := by rw [w60, (gw.2.2.2.2 59 (by decide)).1]; exact hI.2.2.2.2.1
      unfold pw_apply_47
      refine ⟨fun _ => ?_, fun z => by omega⟩
      rcases hr with ⟨hb, hr⟩ | ⟨r0, r1, hb⟩
      · rw [hb] at hR2
        unfold pw_apply_69
        exact ⟨fun _ => rest w s gw hs hR2, fun z => absurd hr z⟩
      · rw [hb] at hR2
        exact done w (s.1, s.2 + 3) r gw hs r0 r1 hR2
