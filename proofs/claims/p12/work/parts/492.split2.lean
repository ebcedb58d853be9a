-- deps: 491
def f7V (k : Nat) : Bool := f7R k || decide (118 ≤ k ∧ k ≤ 119)
theorem f7R_V [DecidableEq Ob] : ∀ k, f7V k = false → f7R k = false := by
  intro k h
  unfold f7V at h
  rw [Bool.or_eq_false_iff] at h
  exact h.1
/-- what comes of a split -/
def SpR [DecidableEq Ob] (u w : iST) (E : Sp.Env) (x y : List Ob) (r : Int) : Prop := GZ f7V u w ∧ w.1 71 = u.1 71 ∧ (∀ id, id < u.1 117 → w.2.1 115 id = u.2.1 115 id ∧ w.2.1 116 id = u.2.1 116 id) ∧ (∀ i, i < 30 * u.1 117 → w.2.1 114 i = u.2.1 114 i) ∧ w.1 117 = u.1 117 + 2 ∧ (ClOk w E (u.1 117) ∧ lits w (u.1 117) = x ∧ w.2.1 116 (u.1 117) = r) ∧ (ClOk w E (u.1 117 + 1) ∧ lits w (u.1 117 + 1) = y ∧ w.2.1 116 (u.1 117 + 1) = r) ∧ w.1 119 = u.1 119 + 1 ∧ (∀ i, i < u.1 119 - 1 → w.2.1 118 i = u.2.1 118 i) ∧ w.2.1 118 (u.1 119 - 1) = u.1 117 + 1 ∧ w.2.1 118 (u.1 119) = u.1 117
theorem p_split133 [DecidableEq Ob] {a b : Int} {Q : iST → Prop} {u : iST} (hT : TI u) (hU : TU u) (hq : ∀ w, GZ f7V u w → (∀ k, k ≠ 119 → w.1 k = u.1 k) → w.1 119 = u.1 119 + 1 → (∀ q, q ≠ 118 → w.2.1 q = u.2.1 q) → (∀ i, i < u.1 119 - 1 → w.2.1 118 i = u.2.1 118 i) → w.2.1 118 (u.1 119 - 1) = b → w.2.1 118 (u.1 119) = a → Q w) : pw_split_133 Q a b u := by
  unfold pw_split_133
  intro x ex _ _ w1 e1 y ey _ _ _ w2 e2 z ez _ _ _ _ w3 e3 c ec _ _ w4 e4
  subst ex
  have hy : y = u.1 119 - 1 := by rw [ey, e1]; rfl
  have hz : z = u.1 119 - 1 := by rw [ez, e2, e1]; rfl
  have hc : c = u.1 119 - 1 := by rw [ec, e3, e2, e1]; rfl
  rw [hy] at e2
  rw [hz] at e3
  rw [hc] at e4
  have r118 : ∀ i, w4.2.1 118 i = if i = u.1 119 - 1 + 1 then a else if i = u.1 119 - 1 then b else u.2.1 118 i := fun i => by rw [e4, e3, e2, e1]; rfl
  refine hq w4 ?_ (fun k hk => by rw [e4, e3, e2, e1]; exact (if_neg hk).trans (if_neg hk)) (by rw [e4]; show u.1 119 - 1 + 2 = _; omega) (fun q hq => by rw [e4, e3, e2, e1]; exact (if_neg hq).trans (if_neg hq)) (fun i hi => by rw [r118, if_neg (by omega), if_neg (by omega)]) (by rw [r118, if_neg (by omega), if_pos rfl]) (by rw [r118, if_pos (by omega)])
  rw [e4, e3, e2, e1]
  exact GZ_eq (GZ.rf hT hU) (fun k hk => ⟨(if_neg (by omega)).trans (if_neg (by omega)), (if_neg (by omega)).trans (if_neg (by omega))⟩) rfl ((((Fx_I (by decide)).tr (Fx_A (by decide))).tr (Fx_A (by decide))).tr (Fx_I (by decide)))
/-- the rest of a split, when b and c are there -/
theorem p_split94 [DecidableEq Ob] {id i a b c : Int} {Q : iST → Prop} {u0 u : iST} {E : Sp.Env} (hT0 : TI u0) (hG0 : GM u0 u) (hC : ClOk u0 E id) (i0 : 0 ≤ i) (i1 : i < u0.2.1 115 id) (d0 : 0 ≤ id) (hid : id < u0.1 117) (h71 : 0 ≤ u0.1 71) (na : Nd u0 E a) (nb : Nd u E b) (nc : Nd u E c) {R : EStateM.Result Unit Sp.Wk Sp.Out} {s : Sp.Wk} {r : Nat} (hr : u0.2.1 116 id = (r : Int))
    (hR : u.1 61 = 0 → R = Sp.bd (Sp.mkNot (ob u0 a)) (fun nA => Sp.bd (Sp.bounded (((lits u0 id).take i.toNat ++ [nA, ob u b] ++ (lits u0 id).drop (i.toNat + 1)).foldl Sp.putL [])) (fun x => Sp.bd (Sp.bounded (((lits u0 id).take i.toNat ++ [ob u0 a, ob u c] ++ (lits u0 id).drop (i.toNat + 1)).foldl Sp.putL [])) (fun y => Sp.ret (some (.inl ((x, r + 1), (y, r + 1))))))) s)
    (hb : u.1 61 ≠ 0 → R = .error () s)
    (hok : ∀ w s' x y, R = .ok (some (.inl ((x, r + 1), (y, r + 1)))) s' → s'.1 = s.1 → SpR u0 w E x y ((r : Int) + 1) → w.1 61 = 0 → Q w)
    (hbad : ∀ w s', R = .error () s' → s'.1 = s.1 → GZ f7V u0 w → w.1 61 ≠ 0 → Q w) : pw_split_94 Q id i a b c u := by
  have hT := hG0.1.1
  have hU := hG0.1.2.1
  have rn0 : RwN (u0.1 117) u0 u := hG0.rn
  obtain ⟨hCu, lu⟩ := rn0.cl hT0 hid hC
  have u117 : u.1 117 = u0.1 117 := hG0.n 117 (by decide)
  have u115 : u.2.1 115 id = u0.2.1 115 id := (rn0.2.2.1 id hid).1
  obtain ⟨nau, eau⟩ := na.mono hT0 hG0.1
  unfold pw_split_94
  refine p_notOf hT hU (by rw [hG0.2.1]; exact h71) nau.1 nau.2.1 nau.2.2.1 (fun h => by obtain ⟨x, e, _⟩ := Ob.wt_one nau.2.2.2 h not_q (arOf_not E); exact ⟨x, e⟩) (fun k w hG k0 k1 ek tk fk => ?_)
  have nk : Nd w E k := ⟨k0, k1, tk, by rw [ek]; exact wt_neg nau.2.2.2⟩
  have hG1 := hG0.tr hG
  have rn1 : RwN (u0.1 117) u0 w := hG1.rn
  have hTw := hG.1.1
  have hUw := hG.1.2.1
  obtain ⟨hCw, lw⟩ := rn1.cl hT0 hid hC
  have w117 : w.1 117 = u0.1 117 := hG1.n 117 (by decide)
  have w115 : w.2.1 115 id = u0.2.1 115 id := (rn1.2.2.1 id hid).1
  obtain ⟨nbw, ebw⟩ := nb.mono hT hG.1
  obtain ⟨ncw, ecw⟩ := nc.mono hT hG.1
  obtain ⟨naw, eaw⟩ := na.mono hT0 hG1.1
  -- how it stands behind notOf
  have hR1 : ∃ s1 : Sp.Wk, s1.1 = s.1 ∧ (w.1 61 = 0 → R = Sp.bd (Sp.bounded (((lits u0 id).take i.toNat ++ [ob w k, ob u b] ++ (lits u0 id).drop (i.toNat + 1)).foldl Sp.putL [])) (fun x => Sp.bd (Sp.bounded (((lits u0 id).take i.toNat ++ [ob u0 a, ob u c] ++ (lits u0 id).drop (i.toNat + 1)).foldl Sp.putL [])) (fun y => Sp.ret (some (.inl ((x, r + 1), (y, r + 1)))))) s1) ∧ (w.1 61 ≠ 0 → R = .error () s1) := by
    by_cases z : u.1 61 = 0
    · have hm := MK_not (s := s) z ek fk
      rw [eau] at hm
      rcases hm with ⟨s1, e1, es1, h0⟩ | ⟨s1, e1, es1, h0⟩
      · exact ⟨s1, es1, fun _ => by rw [hR z, bind_ok e1], fun y => absurd h0 y⟩
      · exact ⟨s1, es1, fun y => absurd y h0, fun _ => by rw [hR z, bind_err e1]⟩
    · exact ⟨s, rfl, fun y => absurd y (by rw [fk]; exact nb_ne z), fun _ => hb z⟩
  obtain ⟨s1, es1, hR2, hb2⟩ := hR1
  have fault : ∀ (v : iST) (x y : Int), GZ f7R w v → v.1 61 ≠ 0 → R = .error () s1 → pw_split_133 Q x y v := by
    intro v x y gv v61 hRe
    refine p_split133 gv.1 gv.2.1 (fun t gt tn _ _ _ _ _ => hbad t s1 hRe es1 ((hG1.1.mono f7M_R |>.mono f7R_V).tr ((gv.mono f7R_V).tr gt)) (by rw [tn 61 (by decide)]; exact v61))
  refine p_splitRow hTw hUw hCw i0 (by omega) nk nbw d0 (by omega) (fun v rv h61 hbn v61 v117 vC vl vm => ?_) (fun v rv v117 v61 hbn => ?_)
  · rw [w117] at rv v117 vC vl vm
    rw [lw, ebw] at hbn vl
    rw [w117]
    have hR3 := hR2 h61
    rw [bind_ok (show Sp.bounded _ s1 = .ok _ s1 from by unfold Sp.bounded; rw [if_pos hbn]; rfl)] at hR3
    intro z ez _
    rw [v61] at ez
    rw [ez]
    refine ⟨fun y => absurd rfl y, fun _ => ?_⟩
    have rn2 := rn1.tr rv
    obtain ⟨hCv, lv⟩ := rn2.cl hT0 hid hC
    obtain ⟨nav, eav⟩ := na.mono hT0 rn2.1
    obtain ⟨ncv, ecv⟩ := ncw.mono hTw rv.1
    have v115 : v.2.1 115 id = u0.2.1 115 id := (rn2.2.2.1 id hid).1
    refine p_splitRow rv.1.1 rv.1.2.1 hCv i0 (by omega) nav ncv d0 (by omega) (fun t rt _ hbn2 t61 t117 tC tl tm => ?_) (fun t rt t117 t61 hbn2 => ?_)
    · rw [v117] at rt t117 tC tl tm
      rw [lv, eav, ecv, ecw] at hbn2 tl
      rw [v117]
      rw [bind_ok (show Sp.bounded _ s1 = .ok _ s1 from by unfold Sp.bounded; rw [if_pos hbn2]; rfl)] at hR3
      obtain ⟨tC0, tl0⟩ := rt.cl rv.1.1 (by omega) vC
      have tm0 : t.2.1 116 (u0.1 117) = v.2.1 116 (u0.1 117) := (rt.2.2.1 _ (by omega)).2
      have w116 : w.2.1 116 id = (r : Int) := by rw [(rn1.2.2.1 id hid).2]; exact hr
      have v116 : v.2.1 116 id = (r : Int) := by rw [(rn2.2.2.1 id hid).2]; exact hr
      refine p_split133 rt.1.1 rt.1.2.1 (fun p gp pn p119 pq p1 p2 p3 => ?_)
      have t119 : t.1 119 = u0.1 119 := by
        rw [(rt.1.2.2.2.2 119 (by decide)).1, (rn2.1.2.2.2.2 119 (by decide)).1]
      have t118 : t.2.1 118 = u0.2.1 118 := by
        rw [(rt.1.2.2.2.2 118 (by decide)).2, (rn2.1.2.2.2.2 118 (by decide)).2]
      rw [t119] at p119 p1 p2 p3
      have ndp : ∀ j, Nd t E j → Nd p E j ∧ ob p j = ob t j := fun j hj => hj.mono rt.1.1 gp
      have clp : ∀ id', ClOk t E id' → ClOk p E id' ∧ lits p id' = lits t id' := by
        intro id' hc'
        obtain ⟨a0, a1, a2, a3⟩ := hc'
        refine ⟨⟨by rw [pq 115 (by decide)]; exact a0, by rw [pq 115 (by decide)]; exact a1, by rw [pq 116 (by decide)]; exact a2, fun j j0 j1 => ?_⟩, ?_⟩
        · rw [pq 115 (by decide)] at j1
          rw [pq 114 (by decide)]
          exact (ndp _ (a3 j j0 j1)).1
        · unfold lits
          rw [pq 115 (by decide), pq 114 (by decide)]
          exact ls_congr (fun j hj => (ndp _ (a3 _ (by omega) (by omega))).2)
      refine hok p s1 _ _ hR3 es1 ⟨(rn2.1.mono f7R_V).tr ((rt.1.mono f7R_V).tr gp), by rw [pn 71 (by decide), rt.2.1, rn2.2.1], fun id' h' => ?_, fun j hj => ?_, by rw [pn 117 (by decide), t117]; omega, ⟨(clp _ tC0).1, by rw [(clp _ tC0).2, tl0, vl], by rw [pq 116 (by decide), tm0, vm, w116]⟩, ⟨(clp _ tC).1, by rw [(clp _ tC).2, tl], by rw [pq 116 (by decide), tm, v116]⟩, p119, fun j hj => by rw [p1 j hj, t118], p2, p3⟩ (by rw [pn 61 (by decide)]; exact t61)
      · rw [pq 115 (by decide), pq 116 (by decide)]
        have x1 := rt.2.2.1 id' (by omega)
        have x2 := rn2.2.2.1 id' h'
        exact ⟨x1.1.trans x2.1, x1.2.trans x2.2⟩
      · rw [pq 114 (by decide), rt.2.2.2 j (by omega), rn2.2.2.2 j hj]
    · have hbn2 := hbn2 v61
      rw [lv, eav, ecv, ecw] at hbn2
      refine fault t _ _ (rv.1.tr rt.1) t61 ?_
      rw [hR3, bind_err (show Sp.bounded _ s1 = .error () s1 from by unfold Sp.bounded; rw [if_neg (by rw [hbn2]; decide)]; rfl)]
  · rw [w117] at rv v117
    intro z ez _
    rw [ez]
    refine ⟨fun _ => fault v 0 0 rv.1 v61 ?_, fun y => absurd v61 y⟩
    by_cases z : w.1 61 = 0
    · have hbn := hbn z
      rw [lw, ebw] at hbn
      rw [hR2 z, bind_err (show Sp.bounded _ s1 = .error () s1 from by unfold Sp.bounded; rw [if_neg (by rw [hbn]; decide)]; rfl)]
    · exact hb2 z
