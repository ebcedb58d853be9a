-- deps: 497
theorem bnd_len [DecidableEq Ob] {l : List Ob} (h : l.length ≤ 30) : l.length ≤ 31 := by omega
/-- a state in which only numbers that no clause needs have changed -/
theorem kp_same [DecidableEq Ob] {v w : iST} {E : Sp.Env} (hT : TI v) (hG : GZ f7Z v w) (h117 : w.1 117 = v.1 117) (h114 : w.2.1 114 = v.2.1 114) (h115 : w.2.1 115 = v.2.1 115) (h116 : w.2.1 116 = v.2.1 116) (id : Int) (h : GdC v E id) : GdC w E id ∧ cl7 w id = cl7 v id := by
  obtain ⟨d0, d1, c0, c1, c2, c3⟩ := h
  refine ⟨⟨d0, by omega, by rw [h115]; exact c0, by rw [h115]; exact c1, by rw [h116]; exact c2, fun i i0 i1 => ?_⟩, ?_⟩
  · rw [h115] at i1
    rw [h114]
    exact ((c3 i i0 i1).mono hT hG).1
  · unfold cl7 lits
    rw [h114, h115, h116]
    exact congrArg (fun l => (l, (v.2.1 116 id).toNat)) (ls_congr (fun i hi => ((c3 _ (by omega) (by omega)).mono hT hG).2))
theorem pv_step [DecidableEq Ob] {E : Sp.Env} {c : Sp.Cla} {ws lf : List Sp.Cla} {s : Sp.Wk} (h : ¬ 20 ≤ lf.length) : Sp.pvStep E (c :: ws, lf, s) = if Sp.plainC c.1 then .inl (ws, lf, s) else if c.2 = 6 then .inl (ws, lf ++ [c], s)
    else match Sp.roundGo E c.2 31 [] c.1 false s with
      | .ok none s' => .inl (ws, lf, s')
      | .ok (some (.inl (a, b))) s' => .inl (a :: b :: ws, lf, s')
      | .ok (some (.inr (.inl d))) s' => .inl (ws, lf ++ [d], s')
      | .ok (some (.inr (.inr d))) s' => .inl (d :: ws, lf, s')
      | .error _ s' => .inr (none, s') := by
  unfold Sp.pvStep
  exact if_neg h
theorem pv_loop [DecidableEq Ob] {u : iST} {E : Sp.Env} {Q : Int → iST → Prop} {p0 : Sp.Pv} (hT0 : TI u) (hE0 : EnvS u E) (h71 : 0 ≤ u.1 71)
    (hdone : ∀ v s, GZ f7Z u v → v.1 71 = u.1 71 → v.1 64 = 0 → v.1 61 = 0 → PvI v E → StL v s → Sp.PvEnd E p0 (some (lfL v), s) → pw_prove_130 Q v)
    (hbad : ∀ v s, GZ f7Z u v → v.1 64 = 0 → v.1 61 ≠ 0 → StL v s → Sp.PvEnd E p0 (none, s) → pw_prove_130 Q v) (v : iST) (hJ : PvJ u E p0 v) : pw_prove_47 Q v := by
  refine pw_prove_47_i (PvJ u E p0) ?_ hJ
  clear hJ v
  intro v hJ
  unfold pw_prove_47b
  intro x ex _
  rw [ex]
  rcases hJ with ⟨gv, v71, v64, v61, hP, s, hS, hend⟩ | ⟨gv, v64, v61, s, hS, hend⟩
  · refine ⟨fun z => absurd v61 z, fun _ => ?_⟩
    have hT := gv.1
    have hU := gv.2.1
    have hll : (lfL v).length = (v.1 63).toNat := by unfold lfL; simp
    have p2 := hP.2.1
    intro y ey _
    rw [ey]
    refine ⟨fun hz => ?_, fun hz => ?_⟩
    · have hw : wtL v = [] := by unfold wtL; rw [show (v.1 119).toNat = 0 by omega]; rfl
      exact hdone v s gv v71 v64 v61 hP hS (hend _ (Sp.PvEnd.of (by unfold Sp.pvStep; rw [hw])))
    have hp : 0 < v.1 119 := by omega
    have hcons := wtL_cons hp
    have hcons' : wtL v = cl7 v (v.2.1 118 (v.1 119 - 1)) :: tlW v := hcons
    intro y ey _
    rw [ey]
    refine ⟨fun hz => ?_, fun hz => ?_⟩
    · refine hdone v s gv v71 v64 v61 hP hS (hend _ (Sp.PvEnd.of ?_))
      rw [hcons']
      unfold Sp.pvStep
      exact if_pos (by show 20 ≤ (lfL v).length; omega)
    have hst := pv_step (E := E) (c := cl7 v (v.2.1 118 (v.1 119 - 1))) (ws := tlW v) (lf := lfL v) (s := s) (by omega)
    intro y ey _ _ _ _ idv eid _
    rw [ey] at eid
    have gid := hP.2.2.1 (v.1 119 - 1) (by omega) (by omega)
    rw [← eid] at gid hst hcons'
    have gid' := gid
    obtain ⟨d0, d1, hC⟩ := gid
    -- on: one step of the specification
    have goon : ∀ (w : iST) (s' : Sp.Wk), GZ f7Z v w → w.1 71 = v.1 71 → w.1 64 = 0 → w.1 61 = 0 → PvI w E → StL w s' → Sp.pvStep E (cl7 v idv :: tlW v, lfL v, s) = .inl (wtL w, lfL w, s') → PvJ u E p0 w := by
      intro w s' gw w71 w64 w61 wP wS hstep
      refine Or.inl ⟨gv.tr gw, w71.trans v71, w64, w61, wP, s', wS, fun r hr => hend r ?_⟩
      rw [hcons']
      exact Sp.PvEnd.more hstep hr
    refine p_isProved hT hU hC (fun r1 hr1 => ⟨fun hz => ?_, fun hz => ?_⟩)
    · have hpl : Sp.plainC (lits v idv) = false := hr1.f hz
      have hst1 := hst
      rw [if_neg (show ¬ Sp.plainC (cl7 v idv).1 = true by show ¬ Sp.plainC (lits v idv) = true; rw [hpl]; decide)] at hst1
      intro _ _ y3 ey3 _
      rw [ey3]
      have c2 := hC.2.2.1
      refine ⟨fun hr6 => ?_, fun hr6 => ?_⟩
      · -- a round
        obtain ⟨r, hr⟩ : ∃ r : Nat, v.2.1 116 idv = (r : Int) := ⟨(v.2.1 116 idv).toNat, by omega⟩
        have ecl : cl7 v idv = (lits v idv, r) := by unfold cl7; rw [hr]; rfl
        rw [ecl, if_neg (by show ¬ r = 6; omega)] at hst1
        have hst2 : Sp.pvStep E ((lits v idv, r) :: tlW v, lfL v, s) = match Sp.roundGo E r 31 [] (lits v idv) false s with
            | .ok none s' => .inl (tlW v, lfL v, s')
            | .ok (some (.inl (a, b))) s' => .inl (a :: b :: tlW v, lfL v, s')
            | .ok (some (.inr (.inl d))) s' => .inl (tlW v, lfL v ++ [d], s')
            | .ok (some (.inr (.inr d))) s' => .inl (d :: tlW v, lfL v, s')
            | .error _ s' => .inr (none, s') := hst1
        rw [ecl] at goon hcons'
        have htop : v.2.1 118 (v.1 119 - 1) = idv := eid.symm
        have kpc : ∀ t : iST, RO idv v t → ∀ id', id' ≠ v.2.1 118 (v.1 119 - 1) → GdC v E id' → GdC t E id' ∧ cl7 t id' = cl7 v id' := fun t ht id' hne hg => ht.cl hT (by rw [← htop]; exact hne) hg
        unfold pw_round
        refine rnd_go (id := idv) (R := Sp.roundGo E r 31 [] (lits v idv) false s) (r := r) hT (hE0.monoZ hT0 gv) (by rw [v71]; exact h71) d0 d1 hr (fun t s' hR kt tS t61 t64 => ?_) (fun t w s' a b hR kt hSp wS w61 w64 => ?_) (fun t s' c hR kt tC tl tS t61 t64 => ?_) (fun t s' c hR kt tC tl tS t61 t64 => ?_) (fun w s' hR gw wS w64 w61 => ?_) 31 v s [] (lits v idv) 0 (RO.rf hT hU idv) hC rfl (by rw [lits_len]; have := hC.2.1; omega) v64 hS v61 rfl
        · rw [hR] at hst2
          have g1 : GZ f7Z t (iI t 119 (t.1 119 - 1)) := GZ_eq (GZ.rf kt.1.1 kt.1.2.1) (fun k hk => ⟨if_neg (by omega), rfl⟩) rfl (Fx_I (by decide))
          have hk : KpC v (iI t 119 (t.1 119 - 1)) E := fun id' hne hg => by
            obtain ⟨a, b⟩ := kpc t kt id' hne hg
            obtain ⟨a', b'⟩ := kp_same kt.1.1 g1 rfl rfl rfl rfl id' a
            exact ⟨a', b'.trans b⟩
          obtain ⟨wP, w1, w2⟩ := pv_pop hP hp hk (show t.1 119 - 1 = v.1 119 - 1 by rw [kt.2.2.1.2.2]) (show t.1 63 = v.1 63 from kt.2.2.1.1) (fun i _ => congrFun kt.2.2.2.1.2.1 i) (fun i _ => congrFun kt.2.2.2.1.2.2 i)
          exact goon _ s' (kt.1.tr g1) kt.2.1 t64 t61 wP tS (by rw [w1, w2]; exact hst2)
        · rw [hR] at hst2
          obtain ⟨gS, s71, sold, s114, s117, ⟨c1, l1, m1⟩, ⟨c2', l2, m2⟩, s119, s118, sa, sb⟩ := hSp
          have t117 : t.1 117 = v.1 117 := kt.2.2.1.2.1
          have t119 : t.1 119 = v.1 119 := kt.2.2.1.2.2
          rw [t117] at s117 c1 l1 m1 c2' l2 m2 sa sb sold s114
          rw [t119] at s119 s118 sa sb
          have r0 : 0 ≤ v.1 117 := by omega
          have hk : KpC v w E := fun id' hne hg => by
            obtain ⟨a1, b1⟩ := kpc t kt id' hne hg
            obtain ⟨e0, e1, q0, q1, q2, q3⟩ := a1
            have o := sold id' (by rw [← t117]; exact e1)
            have cell : ∀ i, 0 ≤ i → i < t.2.1 115 id' → w.2.1 114 (30 * id' + i) = t.2.1 114 (30 * id' + i) := fun i i0 i1 => s114 _ (by omega)
            refine ⟨⟨e0, by omega, by rw [o.1]; exact q0, by rw [o.1]; exact q1, by rw [o.2]; exact q2, fun i i0 i1 => ?_⟩, ?_⟩
            · rw [o.1] at i1
              rw [cell i i0 i1]
              exact ((q3 i i0 i1).mono kt.1.1 gS).1
            · rw [← b1]
              unfold cl7 lits
              rw [o.1, o.2]
              refine congrArg (fun l => (l, (t.2.1 116 id').toNat)) (ls_congr (fun i hi => ?_))
              rw [cell _ (by omega) (by omega)]
              exact ((q3 _ (by omega) (by omega)).mono kt.1.1 gS).2
          obtain ⟨wP, w1, w2⟩ := pv_two hP hp hk s119 (by rw [(gS.2.2.2.2 63 (by decide)).1]; exact kt.2.2.1.1) (fun i hi => (s118 i hi).trans (congrFun kt.2.2.2.1.2.1 i)) (fun i _ => by rw [(gS.2.2.2.2 120 (by decide)).2, kt.2.2.2.1.2.2]) sa sb ⟨by omega, by omega, c2'⟩ ⟨by omega, by omega, c1⟩
          have ea : cl7 w (v.1 117) = (a, r + 1) := by unfold cl7; rw [l1, m1]; rfl
          have eb : cl7 w (v.1 117 + 1) = (b, r + 1) := by unfold cl7; rw [l2, m2]; rfl
          exact goon w s' (kt.1.tr (gS.mono f7V_Z)) (s71.trans kt.2.1) w64 w61 wP wS (by rw [w1, w2, ea, eb]; exact hst2)
        · rw [hR] at hst2
          have g1 : GZ f7Z t (iA t 116 idv ((r : Int) + 1)) := GZ_eq (GZ.rf kt.1.1 kt.1.2.1) (fun k hk => ⟨rfl, if_neg (by omega)⟩) rfl (Fx_A (by decide))
          refine p_leave g1.1 g1.2.1 (fun w gw wn w63 w119 wq w120 => ?_)
          have gtw := g1.tr gw
          have e114 : w.2.1 114 = t.2.1 114 := wq 114 (by decide)
          have e115 : w.2.1 115 = t.2.1 115 := wq 115 (by decide)
          have e116 : ∀ i, w.2.1 116 i = if i = idv then (r : Int) + 1 else t.2.1 116 i := fun i => by rw [wq 116 (by decide)]; rfl
          have n117 : w.1 117 = t.1 117 := wn 117 (by decide) (by decide)
          have hk : KpC v w E := fun id' hne hg => by
            obtain ⟨a1, b1⟩ := kpc t kt id' hne hg
            obtain ⟨e0, e1, q0, q1, q2, q3⟩ := a1
            have hne' : id' ≠ idv := by rw [← htop]; exact hne
            refine ⟨⟨e0, by omega, by rw [e115]; exact q0, by rw [e115]; exact q1, by rw [e116, if_neg hne']; exact q2, fun i i0 i1 => ?_⟩, ?_⟩
            · rw [e115] at i1
              rw [e114]
              exact ((q3 i i0 i1).mono kt.1.1 gtw).1
            · rw [← b1]
              unfold cl7 lits
              rw [e115, e114, e116, if_neg hne']
              exact congrArg (fun l => (l, (t.2.1 116 id').toNat)) (ls_congr (fun i hi => ((q3 _ (by omega) (by omega)).mono kt.1.1 gtw).2))
          have hg : GdC w E idv ∧ lits w idv = c := by
            obtain ⟨q0, q1, q2, q3⟩ := tC
            refine ⟨⟨d0, by rw [n117, kt.2.2.1.2.1]; exact d1, by rw [e115]; exact q0, by rw [e115]; exact q1, by rw [e116, if_pos rfl]; omega, fun i i0 i1 => ?_⟩, ?_⟩
            · rw [e115] at i1
              rw [e114]
              exact ((q3 i i0 i1).mono kt.1.1 gtw).1
            · rw [← tl]
              unfold lits
              rw [e115, e114]
              exact ls_congr (fun i hi => ((q3 _ (by omega) (by omega)).mono kt.1.1 gtw).2)
          have t63 : t.1 63 = v.1 63 := kt.2.2.1.1
          have w63' : w.1 63 = v.1 63 + 1 := by rw [w63]; show t.1 63 + 1 = _; rw [t63]
          have w119' : w.1 119 = v.1 119 - 1 := by rw [w119]; show t.1 119 - 1 = _; rw [kt.2.2.1.2.2]
          have w120' : ∀ i, w.2.1 120 i = if i = v.1 63 then idv else v.2.1 120 i := fun i => by
            rw [w120]
            show (if i = t.1 63 then idv else t.2.1 120 i) = _
            rw [t63, kt.2.2.2.1.2.2]
          obtain ⟨wP, w1, w2⟩ := pv_move hP hp hk w119' w63' (fun i _ => by rw [wq 118 (by decide)]; exact congrFun kt.2.2.2.1.2.1 i) (fun i hi => by rw [w120', if_neg (by omega)]) (by rw [w120', if_pos rfl, htop]) (by rw [htop]; exact hg.1)
          have ec : cl7 w idv = (c, r + 1) := by unfold cl7; rw [hg.2, e116, if_pos rfl]; rfl
          rw [htop, ec] at w2
          refine goon w s' (kt.1.tr gtw) ((wn 71 (by decide) (by decide)).trans kt.2.1) ((wn 64 (by decide) (by decide)).trans t64) ((wn 61 (by decide) (by decide)).trans t61) wP ?_ (by rw [w1, w2]; exact hst2)
          unfold StL at tS ⊢
          rw [wn 60 (by decide) (by decide), wn 59 (by decide) (by decide)]
          exact tS
        · rw [hR] at hst2
          have g1 : GZ f7Z t (iA t 116 idv ((r : Int) + 1)) := GZ_eq (GZ.rf kt.1.1 kt.1.2.1) (fun k hk => ⟨rfl, if_neg (by omega)⟩) rfl (Fx_A (by decide))
          obtain ⟨w, ew⟩ : ∃ w, w = iA t 116 idv ((r : Int) + 1) := ⟨_, rfl⟩
          rw [← ew] at g1 ⊢
          have e114 : w.2.1 114 = t.2.1 114 := by rw [ew]; rfl
          have e115 : w.2.1 115 = t.2.1 115 := by rw [ew]; rfl
          have e116 : ∀ i, w.2.1 116 i = if i = idv then (r : Int) + 1 else t.2.1 116 i := fun i => by rw [ew]; rfl
          have n1 : w.1 = t.1 := by rw [ew]; rfl
          have q118 : w.2.1 118 = v.2.1 118 := by rw [ew]; exact kt.2.2.2.1.2.1
          have q120 : w.2.1 120 = v.2.1 120 := by rw [ew]; exact kt.2.2.2.1.2.2
          clear ew
          have hk : KpC v w E := fun id' hne hg => by
            obtain ⟨a1, b1⟩ := kpc t kt id' hne hg
            obtain ⟨e0, e1, q0, q1, q2, q3⟩ := a1
            have hne' : id' ≠ idv := by rw [← htop]; exact hne
            refine ⟨⟨e0, by rw [n1]; exact e1, by rw [e115]; exact q0, by rw [e115]; exact q1, by rw [e116, if_neg hne']; exact q2, fun i i0 i1 => ?_⟩, ?_⟩
            · rw [e115] at i1
              rw [e114]
              exact ((q3 i i0 i1).mono kt.1.1 g1).1
            · rw [← b1]
              unfold cl7 lits
              rw [e115, e114, e116, if_neg hne']
              exact congrArg (fun l => (l, (t.2.1 116 id').toNat)) (ls_congr (fun i hi => ((q3 _ (by omega) (by omega)).mono kt.1.1 g1).2))
          have hg : GdC w E idv ∧ lits w idv = c := by
            obtain ⟨q0, q1, q2, q3⟩ := tC
            refine ⟨⟨d0, by rw [n1, kt.2.2.1.2.1]; exact d1, by rw [e115]; exact q0, by rw [e115]; exact q1, by rw [e116, if_pos rfl]; omega, fun i i0 i1 => ?_⟩, ?_⟩
            · rw [e115] at i1
              rw [e114]
              exact ((q3 i i0 i1).mono kt.1.1 g1).1
            · rw [← tl]
              unfold lits
              rw [e115, e114]
              exact ls_congr (fun i hi => ((q3 _ (by omega) (by omega)).mono kt.1.1 g1).2)
          obtain ⟨wP, w1, w2⟩ := pv_again hP hp hk (by rw [n1]; exact kt.2.2.1.2.2) (by rw [n1]; exact kt.2.2.1.1) q118 (fun i _ => by rw [q120]) (by rw [htop]; exact hg.1)
          have ec : cl7 w idv = (c, r + 1) := by unfold cl7; rw [hg.2, e116, if_pos rfl]; rfl
          rw [htop, ec] at w1
          exact goon w s' (kt.1.tr g1) (by rw [n1]; exact kt.2.1) (by rw [n1]; exact t64) (by rw [n1]; exact t61) wP (by unfold StL; rw [n1]; exact tS) (by rw [w1, w2]; exact hst2)
        · rw [hR] at hst2
          refine Or.inr ⟨gv.tr gw, w64, w61, s', wS, hend _ ?_⟩
          rw [hcons']
          exact Sp.PvEnd.of hst2
      · -- six rounds: LEFT
        have h6 : v.2.1 116 idv = 6 := Decidable.not_not.mp hr6
        rw [if_pos (show (cl7 v idv).2 = 6 by show (v.2.1 116 idv).toNat = 6; rw [h6]; rfl)] at hst1
        refine p_leave hT hU (fun w gw wn w63 w119 wq w120 => ?_)
        have same := fun id' (hg : GdC v E id') => kp_same hT gw (wn 117 (by decide) (by decide)) (wq 114 (by decide)) (wq 115 (by decide)) (wq 116 (by decide)) id' hg
        have htop : v.2.1 118 (v.1 119 - 1) = idv := eid.symm
        obtain ⟨wP, w1, w2⟩ := pv_move hP hp (fun id' _ hg => same id' hg) w119 w63 (fun i _ => by rw [wq 118 (by decide)]) (fun i hi => by rw [w120, if_neg (by omega)]) (by rw [w120, if_pos rfl, htop]) (by rw [htop]; exact (same idv gid').1)
        rw [htop, (same idv gid').2] at w2
        refine goon w s gw (wn 71 (by decide) (by decide)) ((wn 64 (by decide) (by decide)).trans v64) ((wn 61 (by decide) (by decide)).trans v61) wP ?_ (by rw [w1, w2]; exact hst1)
        unfold StL at hS ⊢
        rw [wn 60 (by decide) (by decide), wn 59 (by decide) (by decide)]
        exact hS
    · have hpl : Sp.plainC (lits v idv) = true := hr1.t hz
      rw [if_pos (show Sp.plainC (cl7 v idv).1 = true from hpl)] at hst
      intro y4 ey4 _ _ w ew
      rw [ey4] at ew
      have gw : GZ f7Z v w := by rw [ew]; exact GZ_eq (GZ.rf hT hU) (fun k hk => ⟨if_neg (by omega), rfl⟩) rfl (Fx_I (by decide))
      have wn : ∀ k, k ≠ 119 → w.1 k = v.1 k := fun k hk => by rw [ew]; exact if_neg hk
      have w119 : w.1 119 = v.1 119 - 1 := by rw [ew]; rfl
      have wr : w.2 = v.2 := by rw [ew]; rfl
      clear ew
      have same := fun id' (hg : GdC v E id') => kp_same hT gw (wn 117 (by decide)) (by rw [wr]) (by rw [wr]) (by rw [wr]) id' hg
      obtain ⟨wP, w1, w2⟩ := pv_pop hP hp (fun id' _ hg => same id' hg) w119 (wn 63 (by decide)) (fun i _ => by rw [wr]) (fun i _ => by rw [wr])
      exact goon w s gw (wn 71 (by decide)) ((wn 64 (by decide)).trans v64) ((wn 61 (by decide)).trans v61) wP (by unfold StL; rw [wn 60 (by decide), wn 59 (by decide)]; exact hS) (by rw [w1, w2]; exact hst)
  · exact ⟨fun _ => hbad v s gv v64 v61 hS hend, fun z => absurd v61 z⟩
