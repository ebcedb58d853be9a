-- deps: 530
/-! the reference: eval, simplify -/
theorem Ran_eval [DecidableEq Ob] {H : Sp.Hs} {fuel : Nat} {o : Ob} {r : Sp.Res} (h : Ob.lft o = Ob.eval) (hr : match (if Ob.len o = 2 then Sp.rdAt (H.env []) o 1 else none) with
     | some T => if (Ob.parts T).any Ob.isVar then r = Sp.nothing H else
        (match Sp.ev (H.env []) 300 (fun x => x) T (fuel, 1000000, 0) with | .ok _ s => r = (H, (fuel : Int) - (s.1 : Int), 0, false) | .error _ s => r = (H, (fuel : Int) - (s.1 : Int), 0, false))
     | none => r = Sp.nothing H) : Sp.Ran H fuel o r := by
  unfold Sp.Ran
  rw [if_pos h]
  exact hr
theorem Ran_simplify [DecidableEq Ob] {H : Sp.Hs} {fuel : Nat} {o : Ob} {r : Sp.Res} (h : Ob.lft o = Ob.simplify) (hr : match (if Ob.len o = 2 then Sp.rdAt (H.env []) o 1 else none) with | some T => r = Sp.ranM H fuel (fun _ => H) (Sp.rw (H.env []) 60 [] T false) | none => r = Sp.nothing H) : Sp.Ran H fuel o r := by
  unfold Sp.Ran
  rw [if_neg (by rw [h]; exact Ob.sym_ne (by decide)), if_pos h]
  exact hr
theorem p_eval [DecidableEq Ob] {a : Int} {Q : Int → iST → Prop} {u : iST} {H : Sp.Hs} {fuel : Nat} (hI : CmI u H fuel a) (hfu : fuel < 1000000) (ho : Ob.lft (ob u a) = Ob.eval) (hq : ∀ ans v r, Sp.Ran H fuel (ob u a) r → CmO u v r ans → Q ans v) : pw_eval a Q u := by
  obtain ⟨hX, bg, ⟨h71, h64, h61, h60, h59, h62, h63⟩, a0, a1⟩ := hI
  have hT := hX.1
  have hU := hX.2.1
  obtain ⟨hD, h57, hW, hTk⟩ := hX.2.2.1
  have no : ∀ v, GZ f7K u v → v.1 64 = 0 → v.1 60 = 0 → v.1 62 = 0 → Sp.Ran H fuel (ob u a) (Sp.nothing H) → Q 2 v := fun v g v64 v60 v62 hr => hq 2 v _ hr (CmO.no hX bg g v64 v60 v62 (by decide))
  have stp : ∀ (ans : Int) (v : iST) (s : Int), GZ f7K u v → v.1 64 = 0 → v.1 60 = s → v.1 62 = 0 → ¬ (ans = 5 ∨ ans = 6) → Sp.Ran H fuel (ob u a) (H, s, 0, false) → Q ans v := fun ans v s g v64 v60 v62 ha hr => hq ans v _ hr ⟨v64, ⟨(g.2.2.2.2 59 (f7K_out (by decide))).1, (g.2.2.2.2 12 (f7K_out (by decide))).2⟩, v60, by rw [if_neg ha], by rw [v62]; exact bq0 rfl, [], hX.keep g, fun _ => bg.keep g⟩
  unfold pw_eval
  refine p_lengthOf hT hU a0 a1 ⟨fun hz => ?_, fun hz => ?_⟩
  · unfold pw_eval_23
    refine ⟨fun z => absurd rfl z, fun _ => no u (GZ.rf hT hU) h64 h60 h62 (Ran_eval ho ?_)⟩
    rw [if_neg hz]
  have hl : (ob u a).len = 2 := Decidable.not_not.mp hz
  refine p_nthL hT a0 a1 (by decide) (by rw [hl]; decide) (fun x x0 x1 ex => ?_)
  have ex : ob u x = Ob.item (ob u a) 1 := ex
  refine p_termE (E := H.env []) hT hU hD h57 x0 x1 (by omega) (fun f w gw w61 hf => ?_)
  rw [ex] at hf
  have hf : (Sp.rdAt (H.env []) (ob u a) 1 = none ∧ f = -1) ∨ (Nd w (H.env []) f ∧ (ob w f).sz ≤ 120 ∧ Sp.rdAt (H.env []) (ob u a) 1 = some (ob w f)) := hf
  have g : GZ f7K u w := gw.1.mono f7M_K
  have qw : ∀ j, (62 ≤ j ∧ j ≤ 64) ∨ j = 60 ∨ j = 59 → w.1 j = u.1 j := fun j hj => (gw.1.2.2.2.2 j (by unfold f7M fI; simp only [Bool.or_eq_false_iff, decide_eq_false_iff_not]; omega)).1
  have w64 : w.1 64 = 0 := by rw [qw 64 (by decide)]; exact h64
  have w60 : w.1 60 = 0 := by rw [qw 60 (by decide)]; exact h60
  have w62 : w.1 62 = 0 := by rw [qw 62 (by decide)]; exact h62
  unfold pw_eval_23
  refine ⟨fun hfz => ?_, fun hfz => no w g w64 w60 w62 (Ran_eval ho ?_)⟩
  rotate_left
  · rw [if_pos hl]
    rcases hf with ⟨q, _⟩ | ⟨q, _⟩
    · rw [q]
    · have := q.1; have := Decidable.not_not.mp hfz; omega
  obtain ⟨nf, zf, ef⟩ := hf.resolve_left (fun q => hfz q.2)
  refine p_variablesOf (ar := Sp.arOf (H.env [])) gw.1.1 gw.1.2.1 nf (fun v gv hV => ?_)
  have gv' : GZ f7K w v := gv.mono f7A_K
  have guv := g.tr gv'
  obtain ⟨nfv, efv⟩ := nf.mono gw.1.1 gv
  have qv : ∀ j, f7A j = false → v.1 j = w.1 j := fun j hj => (gv.2.2.2.2 j hj).1
  intro y ey _
  rw [ey]
  refine ⟨fun hc => ?_, fun hc => no v guv (by rw [qv 64 (by decide)]; exact w64) (by rw [qv 60 (by decide)]; exact w60) (by rw [qv 62 (by decide)]; exact w62) (Ran_eval ho ?_)⟩
  rotate_left
  · rw [if_pos hl, ef]
    show (if _ then _ else _)
    rw [if_pos]
    rw [List.any_eq_true]
    obtain ⟨p1, p2⟩ := (hV.2.2 _).mpr ⟨0, by decide, by omega, rfl⟩
    exact ⟨_, p1, p2⟩
  have hnv : ∀ x, x ∈ Ob.parts (ob w f) → Ob.isVar x = false := fun x hx => by
    cases e : Ob.isVar x with
    | false => rfl
    | true =>
      obtain ⟨i, i0, i1, _⟩ := (hV.2.2 x).mp ⟨hx, e⟩
      omega
  have hany : (Ob.parts (ob w f)).any Ob.isVar = false := by
    rw [List.any_eq_false]
    intro x hx
    rw [hnv x hx]; decide
  have hXv := hX.keep guv
  have v59 : v.1 59 = (fuel : Int) := by rw [(guv.2.2.2.2 59 (f7K_out (by decide))).1]; exact h59
  have v60 : v.1 60 = 0 := by rw [qv 60 (by decide)]; exact w60
  have v64 : v.1 64 = 0 := by rw [qv 64 (by decide)]; exact w64
  have v62 : v.1 62 = 0 := by rw [qv 62 (by decide)]; exact w62
  have ran : ∀ (s : Sp.Ek), (match Sp.ev (H.env []) 300 (fun x => x) (ob w f) (fuel, 1000000, 0) with | .ok _ s' => s' = s | .error _ s' => s' = s) → Sp.Ran H fuel (ob u a) (H, (fuel : Int) - (s.1 : Int), 0, false) := by
    intro s hs
    refine Ran_eval ho ?_
    rw [if_pos hl, ef]
    show (if _ then _ else _)
    rw [if_neg (by rw [hany]; decide)]
    cases e : Sp.ev (H.env []) 300 (fun x => x) (ob w f) (fuel, 1000000, 0) with
    | ok b s' => rw [e] at hs; show _ = _; rw [show s' = s from hs]
    | error b s' => rw [e] at hs; show _ = _; rw [show s' = s from hs]
  refine p_evaluated (E := H.env []) gv.1 gv.2.1 hXv.2.2.1.1 hXv.2.2.1.2.1 hXv.2.2.1.2.2.1 nfv.1 nfv.2.1 nfv.2.2.1 nfv.2.2.2 (by rw [efv]; exact hnv) (s := (fuel, 1000000, 0)) (by rw [v60, v59]; show (0 : Int) + (fuel : Int) = _; omega) (fun z => absurd rfl z) (fun _ => hfu) (fun r s' p hev gp pS p89 r0 r1 => ?_) (fun c s' p hev gp pS c0 p89 => ?_)
  · rw [efv] at hev
    have gp' : GZ f7K v p := gp.mono f7E_K
    have qp : ∀ j, f7E j = false → p.1 j = v.1 j := fun j hj => (gp.2.2.2.2 j hj).1
    refine ⟨fun _ => ?_, fun z => by have := Decidable.not_not.mp z; omega⟩
    refine p_tellOut gp.1 gp.2.1 (by rw [qp 64 (by decide)]; exact v64) r0 r1 (fun z gz z64 _ => ?_)
    have gz' : GZ f7K p z := gz.mono f7T_K
    refine stp 0 z ((fuel : Int) - (s'.1 : Int)) ((guv.tr gp').tr gz') z64 ?_ ?_ (by decide) (ran s' (by rw [hev]))
    · rw [(gz.2.2.2.2 60 (by decide)).1]
      rw [qp 59 (by decide), v59] at pS
      omega
    · rw [(gz.2.2.2.2 62 (by decide)).1, qp 62 (by decide)]; exact v62
  · rw [efv] at hev
    have gp' : GZ f7K v p := gp.mono f7E_K
    have qp : ∀ j, f7E j = false → p.1 j = v.1 j := fun j hj => (gp.2.2.2.2 j hj).1
    refine ⟨fun z => absurd rfl z, fun _ => ?_⟩
    intro y2 ey2 _
    refine p_fail gp.1 gp.2.1 (fun z gz zn z2 z61 => ?_)
    have gz' : GZ f7K p z := gz.1.mono f7M_K
    refine stp 4 z ((fuel : Int) - (s'.1 : Int)) ((guv.tr gp').tr gz') ?_ ?_ ?_ (by decide) (ran s' (by rw [hev]))
    · rw [zn 64 (by decide), qp 64 (by decide)]; exact v64
    · rw [zn 60 (by decide)]
      rw [qp 59 (by decide), v59] at pS
      omega
    · rw [zn 62 (by decide), qp 62 (by decide)]; exact v62
theorem p_simplify [DecidableEq Ob] {a : Int} {Q : Int → iST → Prop} {u : iST} {H : Sp.Hs} {fuel : Nat} (hI : CmI u H fuel a) (ho : Ob.lft (ob u a) = Ob.simplify) (hq : ∀ ans v r, Sp.Ran H fuel (ob u a) r → CmO u v r ans → Q ans v) : pw_simplify a Q u := by
  obtain ⟨hX, bg, ⟨h71, h64, h61, h60, h59, h62, h63⟩, a0, a1⟩ := hI
  have hT := hX.1
  have hU := hX.2.1
  obtain ⟨hD, h57, hW, hTk⟩ := hX.2.2.1
  have no : ∀ v, GZ f7K u v → v.1 64 = 0 → v.1 60 = 0 → v.1 62 = 0 → Sp.Ran H fuel (ob u a) (Sp.nothing H) → Q 2 v := fun v g v64 v60 v62 hr => hq 2 v _ hr (CmO.no hX bg g v64 v60 v62 (by decide))
  have stp : ∀ (ans : Int) (v : iST) (s : Int), GZ f7K u v → v.1 64 = 0 → v.1 60 = s → v.1 62 = 0 → ¬ (ans = 5 ∨ ans = 6) → Sp.Ran H fuel (ob u a) (H, s, 0, false) → Q ans v := fun ans v s g v64 v60 v62 ha hr => hq ans v _ hr ⟨v64, ⟨(g.2.2.2.2 59 (f7K_out (by decide))).1, (g.2.2.2.2 12 (f7K_out (by decide))).2⟩, v60, by rw [if_neg ha], by rw [v62]; exact bq0 rfl, [], hX.keep g, fun _ => bg.keep g⟩
  unfold pw_simplify
  refine p_lengthOf hT hU a0 a1 ⟨fun hz => ?_, fun hz => ?_⟩
  · unfold pw_simplify_23
    refine ⟨fun z => absurd rfl z, fun _ => no u (GZ.rf hT hU) h64 h60 h62 (Ran_simplify ho ?_)⟩
    rw [if_neg hz]
  have hl : (ob u a).len = 2 := Decidable.not_not.mp hz
  refine p_nthL hT a0 a1 (by decide) (by rw [hl]; decide) (fun x x0 x1 ex => ?_)
  have ex : ob u x = Ob.item (ob u a) 1 := ex
  refine p_termE (E := H.env []) hT hU hD h57 x0 x1 (by omega) (fun f w gw w61 hf => ?_)
  rw [ex] at hf
  have hf : (Sp.rdAt (H.env []) (ob u a) 1 = none ∧ f = -1) ∨ (Nd w (H.env []) f ∧ (ob w f).sz ≤ 120 ∧ Sp.rdAt (H.env []) (ob u a) 1 = some (ob w f)) := hf
  have g : GZ f7K u w := gw.1.mono f7M_K
  have qw : ∀ j, (62 ≤ j ∧ j ≤ 64) ∨ j = 60 ∨ j = 59 → w.1 j = u.1 j := fun j hj => (gw.1.2.2.2.2 j (by unfold f7M fI; simp only [Bool.or_eq_false_iff, decide_eq_false_iff_not]; omega)).1
  have w64 : w.1 64 = 0 := by rw [qw 64 (by decide)]; exact h64
  have w60 : w.1 60 = 0 := by rw [qw 60 (by decide)]; exact h60
  have w62 : w.1 62 = 0 := by rw [qw 62 (by decide)]; exact h62
  unfold pw_simplify_23
  refine ⟨fun hfz => ?_, fun hfz => no w g w64 w60 w62 (Ran_simplify ho ?_)⟩
  rotate_left
  · rw [if_pos hl]
    rcases hf with ⟨q, _⟩ | ⟨q, _⟩
    · rw [q]
    · have := q.1; have := Decidable.not_not.mp hfz; omega
  obtain ⟨nf, zf, ef⟩ := hf.resolve_left (fun q => hfz q.2)
  intro v ev
  have gv : GZ f7J w v := by rw [ev]; exact GZ_eq (GZ.rf gw.1.1 gw.1.2.1) (fun k hk => ⟨if_neg (by omega), rfl⟩) rfl (Fx_I (by decide))
  have vn : ∀ k, k ≠ 109 → v.1 k = w.1 k := fun k hk => by rw [ev]; exact if_neg hk
  have v109 : v.1 109 = 0 := by rw [ev]; rfl
  clear ev
  have guv := g.tr (gv.mono f7J_K)
  obtain ⟨nfv, efv⟩ := nf.mono gw.1.1 gv
  have hXv := hX.keep guv
  have cx : CxOk v (H.env []) := ⟨by omega, fun i i0 i1 => by omega⟩
  have cxe : cxL v = [] := by unfold cxL; rw [v109]; rfl
  have v59 : v.1 59 = (fuel : Int) := by rw [(guv.2.2.2.2 59 (f7K_out (by decide))).1]; exact h59
  have hS : StL v (fuel, 0) := by
    unfold StL
    rw [vn 60 (by decide), w60, v59]
    show (0 : Int) + (fuel : Int) = _
    omega
  have ran : ∀ (s : Sp.Wk), (match Sp.rw (H.env []) 60 [] (ob w f) false (fuel, 0) with | .ok _ s' => s' = s | .error _ s' => s' = s) → Sp.Ran H fuel (ob u a) (H, (fuel : Int) - (s.1 : Int), 0, false) := by
    intro s hs
    refine Ran_simplify ho ?_
    rw [if_pos hl, ef]
    show _ = Sp.ranM H fuel (fun _ => H) (Sp.rw (H.env []) 60 [] (ob w f) false)
    unfold Sp.ranM
    cases e : Sp.rw (H.env []) 60 [] (ob w f) false (fuel, 0) with
    | ok b s' => rw [e] at hs; rw [show s' = s from hs]
    | error b s' => rw [e] at hs; rw [show s' = s from hs]
  refine p_rewritten (E := H.env []) gv.1 gv.2.1 hXv.2.2.1 cx nfv (by rw [vn 71 (by decide), gw.2.1]; omega) (by rw [vn 64 (by decide)]; exact w64) (by rw [vn 61 (by decide), w61]; exact h61) hS (fun r s' p hev gp p71 p109 _ p64 pS p61 nr => ?_) (fun r s' p hev gp pS p64 p61 => ?_)
  all_goals
    rw [cxe, efv] at hev
    have hev : Sp.rw (H.env []) 60 [] (ob w f) false (fuel, 0) = _ := hev
    have gup := guv.tr (gp.mono f7J_K)
    have p62 : p.1 62 = 0 := by rw [(gp.2.2.2.2 62 (by decide)).1, vn 62 (by decide)]; exact w62
    have p60 : p.1 60 = (fuel : Int) - (s'.1 : Int) := by
      unfold StL at pS
      rw [(gp.2.2.2.2 59 (by decide)).1, v59] at pS
      omega
    intro z ez y ey _
    have gz : GZ f7J p z := by rw [ez]; exact GZ_eq (GZ.rf gp.1 gp.2.1) (fun k hk => ⟨if_neg (by omega), rfl⟩) rfl (Fx_I (by decide))
    have zn : ∀ k, k ≠ 109 → z.1 k = p.1 k := fun k hk => by rw [ez]; exact if_neg hk
    clear ez
    have guz := gup.tr (gz.mono f7J_K)
    rw [ey, zn 61 (by decide)]
  · refine ⟨fun _ => ?_, fun q => absurd p61 q⟩
    have hle := gz.le
    refine p_tellOut gz.1 gz.2.1 (by rw [zn 64 (by decide)]; exact p64) nr.1 (by have := nr.2.1; omega) (fun t gt t64 _ => ?_)
    refine stp 0 t ((fuel : Int) - (s'.1 : Int)) (guz.tr (gt.mono f7T_K)) t64 ?_ ?_ (by decide) (ran s' (by rw [hev]))
    · rw [(gt.2.2.2.2 60 (by decide)).1, zn 60 (by decide)]; exact p60
    · rw [(gt.2.2.2.2 62 (by decide)).1, zn 62 (by decide)]; exact p62
  · refine ⟨fun q => absurd q p61, fun _ => ?_⟩
    refine stp 4 z ((fuel : Int) - (s'.1 : Int)) guz ?_ ?_ ?_ (by decide) (ran s' (by rw [hev]))
    · rw [zn 64 (by decide)]; exact p64
    · rw [zn 60 (by decide)]; exact p60
    · rw [zn 62 (by decide)]; exact p62
