-- deps: 502
/-! the reference, partial: PATHS -/
def rulQ [DecidableEq Ob] (q : Ob × Bool) : Ob := if q.2 then Ob.neg q.1 else q.1
def pth [DecidableEq Ob] (rs : List Ob) (o : Ob) : List (List Ob × Ob) := (Sp.paths o).map (fun p => (rs ++ p.1.map rulQ, p.2))
theorem paths_if [DecidableEq Ob] (q b c : Ob) : Sp.paths (.pr Ob.ifS (.pr q (.pr b (.pr c Ob.nil)))) = (Sp.paths b).map (fun p => ((q, false) :: p.1, p.2)) ++ (Sp.paths c).map (fun p => ((q, true) :: p.1, p.2)) := by
  show (if Ob.ifS = Ob.ifS then _ else _) = _
  exact if_pos rfl
theorem paths_no [DecidableEq Ob] {o : Ob} (h : o.isCallOf Ob.ifS = false) : Sp.paths o = [([], o)] := by
  unfold Sp.paths
  split
  · next f q b c n =>
    have h : decide (f = Ob.ifS) = false := h
    rw [if_neg (of_decide_eq_false h)]
  · rfl
theorem pth_if [DecidableEq Ob] (rs : List Ob) (q b c : Ob) : pth rs (.pr Ob.ifS (.pr q (.pr b (.pr c Ob.nil)))) = pth (rs ++ [q]) b ++ pth (rs ++ [Ob.neg q]) c := by
  unfold pth
  rw [paths_if, List.map_append, List.map_map, List.map_map]
  refine congr (congrArg _ (List.map_congr_left (fun p _ => ?_))) (List.map_congr_left (fun p _ => ?_))
  · show (rs ++ rulQ (q, false) :: p.1.map rulQ, p.2) = (rs ++ [q] ++ p.1.map rulQ, p.2)
    rw [List.append_assoc]
    rfl
  · show (rs ++ rulQ (q, true) :: p.1.map rulQ, p.2) = (rs ++ [Ob.neg q] ++ p.1.map rulQ, p.2)
    rw [List.append_assoc]
    rfl
theorem pth_no [DecidableEq Ob] {rs : List Ob} {o : Ob} (h : o.isCallOf Ob.ifS = false) : pth rs o = [(rs, o)] := by
  unfold pth
  rw [paths_no h]
  show [(rs ++ [], o)] = _
  rw [List.append_nil]
theorem sz_if [DecidableEq Ob] (q b c : Ob) : Ob.sz (.pr Ob.ifS (.pr q (.pr b (.pr c Ob.nil)))) = 1 + q.sz + b.sz + c.sz := by
  show (if Ob.ifS = Ob.quote then (1 : Int) else 1 + (Ob.szM false q + (Ob.szM false b + (Ob.szM false c + 0)))) = _
  rw [if_neg ifS_q]
  show 1 + (q.sz + (b.sz + (c.sz + 0))) = _
  omega
theorem sz_neg [DecidableEq Ob] {E : Sp.Env} {o : Ob} (w : Ob.wt (Sp.arOf E) o) : (Ob.neg o).sz ≤ o.sz + 1 := by
  have h0 := Ob.sz_pos o
  unfold Ob.neg
  split
  · next h =>
    obtain ⟨x, e, wx⟩ := Ob.wt_one w h not_q (arOf_not E)
    rw [e]
    show Ob.sz x ≤ (if Ob.not = Ob.quote then (1 : Int) else 1 + (Ob.szM false x + 0)) + 1
    rw [if_neg not_q]
    show Ob.sz x ≤ 1 + (Ob.sz x + 0) + 1
    omega
  · split
    · show (1 : Int) ≤ _; omega
    · split
      · show (1 : Int) ≤ _; omega
      · show (if Ob.not = Ob.quote then (1 : Int) else 1 + (Ob.sz o + 0)) ≤ _
        rw [if_neg not_q]
        omega
/-- a path: what rules it, its end -/
def ent [DecidableEq Ob] (v : iST) (t r c : Nat) (i : Int) : List Ob × Ob := (ls v (v.2.1 r) (64 * i) (v.2.1 c i).toNat, ob v (v.2.1 t i))
def EntOk [DecidableEq Ob] (v : iST) (E : Sp.Env) (t r c : Nat) (i : Int) : Prop := (Nd v E (v.2.1 t i) ∧ 0 ≤ v.2.1 c i ∧ 3 * v.2.1 c i + (ob v (v.2.1 t i)).sz ≤ 120) ∧ ∀ k, 0 ≤ k → k < v.2.1 c i → Nd v E (v.2.1 r (64 * i + k)) ∧ (ob v (v.2.1 r (64 * i + k))).sz ≤ 119
theorem EntOk.to [DecidableEq Ob] {n : Nat → Bool} {v w : iST} {E : Sp.Env} {t r c t' r' c' : Nat} {i j : Int} (h : EntOk v E t r c i) (hT : TI v) (hG : GZ n v w) (ht : w.2.1 t' j = v.2.1 t i) (hc : w.2.1 c' j = v.2.1 c i) (hr : ∀ k, 0 ≤ k → k < v.2.1 c i → w.2.1 r' (64 * j + k) = v.2.1 r (64 * i + k)) : EntOk w E t' r' c' j ∧ ent w t' r' c' j = ent v t r c i := by
  obtain ⟨⟨h1, h2, h3⟩, h4⟩ := h
  obtain ⟨n1, e1⟩ := h1.mono hT hG
  refine ⟨⟨⟨by rw [ht]; exact n1, by rw [hc]; exact h2, by rw [ht, hc, e1]; exact h3⟩, fun k k0 k1 => ?_⟩, ?_⟩
  · rw [hc] at k1
    rw [hr k k0 k1]
    obtain ⟨g1, g2⟩ := h4 k k0 k1
    obtain ⟨n2, e2⟩ := g1.mono hT hG
    exact ⟨n2, by rw [e2]; exact g2⟩
  · unfold ent
    rw [ht, hc, e1]
    refine congrArg (fun l => (l, _)) (ls_congr (fun k hk => ?_))
    rw [hr (k : Int) (by omega) (by omega)]
    exact ((h4 (k : Int) (by omega) (by omega)).1.mono hT hG).2
def f7H (k : Nat) : Bool := f7M k || decide (123 ≤ k ∧ k ≤ 129)
theorem f7M_H [DecidableEq Ob] : ∀ k, f7H k = false → f7M k = false := by
  intro k h
  unfold f7H at h
  rw [Bool.or_eq_false_iff] at h
  exact h.1
def pthL [DecidableEq Ob] (v : iST) : List (List Ob × Ob) := (List.range (v.1 126).toNat).map (fun p : Nat => ent v 123 124 125 (p : Int))
def PthOk [DecidableEq Ob] (v : iST) (E : Sp.Env) : Prop := 0 ≤ v.1 126 ∧ ∀ p, 0 ≤ p → p < v.1 126 → EntOk v E 123 124 125 p
def stP [DecidableEq Ob] (v : iST) (n : Nat) : List (List Ob × Ob) := (rvl (fun i => ent v 127 128 129 i) n).flatMap (fun e => pth e.1 e.2)
theorem stP_succ [DecidableEq Ob] (v : iST) (n : Nat) : stP v (n + 1) = pth (ent v 127 128 129 (n : Int)).1 (ent v 127 128 129 (n : Int)).2 ++ stP v n := rfl
theorem stP_congr [DecidableEq Ob] {v w : iST} {n : Nat} (h : ∀ i : Nat, i < n → ent w 127 128 129 (i : Int) = ent v 127 128 129 (i : Int)) : stP w n = stP v n := congrArg _ (rvl_congr n h)
theorem PthOk.mono [DecidableEq Ob] {n : Nat → Bool} {v w : iST} {E : Sp.Env} (h : PthOk v E) (hT : TI v) (hG : GZ n v w) (e126 : w.1 126 = v.1 126) (e123 : w.2.1 123 = v.2.1 123) (e124 : w.2.1 124 = v.2.1 124) (e125 : w.2.1 125 = v.2.1 125) : PthOk w E ∧ pthL w = pthL v := by
  have st := fun p p0 p1 => (h.2 p p0 p1).to hT hG (t' := 123) (r' := 124) (c' := 125) (j := p) (by rw [e123]) (by rw [e125]) (fun k _ _ => by rw [e124])
  refine ⟨⟨by rw [e126]; exact h.1, fun p p0 p1 => (st p p0 (by omega)).1⟩, ?_⟩
  unfold pthL
  rw [e126]
  refine List.map_congr_left (fun p hp => ?_)
  have := List.mem_range.mp hp
  exact (st (p : Int) (by omega) (by omega)).2
theorem p_pathsOf [DecidableEq Ob] {a : Int} {Q : iST → Prop} {u : iST} {E : Sp.Env} (hT : TI u) (hU : TU u) (na : Nd u E a) (hz : (ob u a).sz ≤ 120) (h71 : 0 ≤ u.1 71) (h61 : u.1 61 = 0) (hq : ∀ v, GZ f7H u v → v.1 71 = u.1 71 → v.1 61 = 0 → PthOk v E → pthL v = pth [] (ob u a) → Q v) : pw_pathsOf a Q u := by
  have h8 := hT.1
  unfold pw_pathsOf
  intro w1 ew1 _ _ w2 ew2 _ _ w3 ew3
  have g3 : GZ f7H u w3 := by
    rw [ew3, ew2, ew1]
    exact GZ_eq (GZ.rf hT hU) (fun k hk => ⟨if_neg (by omega), (if_neg (by omega)).trans (if_neg (by omega))⟩) rfl (((Fx_I (by decide)).tr (Fx_A (by decide))).tr (Fx_A (by decide)))
  have n126 : w3.1 126 = 0 := by rw [ew3, ew2, ew1]; rfl
  have n71 : w3.1 71 = u.1 71 := by rw [ew3, ew2, ew1]; rfl
  have n61 : w3.1 61 = 0 := by rw [ew3, ew2, ew1]; exact h61
  have n127 : w3.2.1 127 0 = a := by rw [ew3, ew2, ew1]; rfl
  have n129 : w3.2.1 129 0 = 0 := by rw [ew3, ew2, ew1]; rfl
  clear ew1 ew2 ew3
  obtain ⟨na3, ea3⟩ := na.mono hT g3
  refine pw_pathsOf_21_i (fun x2 v => ∃ n : Nat, x2 = (n : Int) ∧ GZ f7H u v ∧ v.1 71 = u.1 71 ∧ v.1 61 = 0 ∧ PthOk v E ∧ (∀ i, 0 ≤ i → i < (n : Int) → EntOk v E 127 128 129 i) ∧ pthL v ++ stP v n = pth [] (ob u a)) ?_ ⟨1, rfl, g3, n71, n61, ⟨by omega, fun p p0 p1 => by omega⟩, fun i i0 i1 => ?_, ?_⟩
  rotate_left
  · have : i = 0 := by omega
    rw [this]
    refine ⟨⟨by rw [n127]; exact na3, by omega, by rw [n127, n129, ea3]; omega⟩, fun k k0 k1 => by omega⟩
  · unfold pthL
    rw [n126]
    show [] ++ stP w3 1 = _
    rw [stP_succ]
    show pth (ls w3 (w3.2.1 128) (64 * 0) (w3.2.1 129 0).toNat) (ob w3 (w3.2.1 127 0)) ++ [] = _
    rw [List.append_nil, n127, n129, ea3]
    rfl
  intro x2 v hI
  obtain ⟨n, e2, gv, v71, v61, hP, hS, hL⟩ := hI
  rw [e2]
  have hTv := gv.1
  have hUv := gv.2.1
  unfold pw_pathsOf_21b
  refine ⟨fun hc => hq v gv v71 v61 hP ?_, fun hc => ?_⟩
  · have : n = 0 := by omega
    rw [this] at hL
    rw [← hL]
    show _ = _ ++ []
    rw [List.append_nil]
  obtain ⟨m, rfl⟩ : ∃ m, n = m + 1 := ⟨n - 1, by omega⟩
  rw [show ((m + 1 : Nat) : Int) + -1 = (m : Int) by omega]
  have hE := hS (m : Int) (by omega) (by omega)
  rw [stP_succ] at hL
  intro _ _ _ o eo _ _ _ k ek _
  have no := hE.1.1
  rw [← eo] at no
  have hsz := hE.1.2.2
  rw [← eo, ← ek] at hsz
  have hk0 := hE.1.2.1
  rw [← ek] at hk0
  have hoz := Ob.sz_pos (ob v o)
  refine p_callK hTv hUv no.1 no.2.1 3 (by decide) (by decide) rfl (fun r hr => ⟨fun hd => ?_, fun hd => ?_⟩)
  · -- an IF
    have hif := hr.t hd
    obtain ⟨q, b, c, eO, wq, wb, wc⟩ := Ob.wt_three no.2.2.2 hif ifS_q (arOf_ifS E)
    have hsz3 := sz_if q b c
    rw [← eO] at hsz3
    have zq := Ob.sz_pos q
    have zb := Ob.sz_pos b
    have zc := Ob.sz_pos c
    refine p_it hTv no hif ifS_q (arOf_ifS E) (by decide) (by decide) (by decide) (fun tq nq eq => ?_)
    have eq : ob v tq = q := by rw [eq, eO]; rfl
    refine pw_pathsOf_140_i (fun y2 y3 y4 y5 y6 w => y2 = (m : Int) ∧ y3 = o ∧ y4 = k ∧ y5 = tq ∧ 0 ≤ y6 ∧ y6 ≤ k ∧ GZ f7H v w ∧ w.1 = v.1 ∧ (∀ z, z ≠ 128 → w.2.1 z = v.2.1 z) ∧ (∀ i, i < 64 * ((m : Int) + 1) → w.2.1 128 i = v.2.1 128 i) ∧ ∀ i, 0 ≤ i → i < y6 → w.2.1 128 (64 * ((m : Int) + 1) + i) = v.2.1 128 (64 * (m : Int) + i)) ?_ ⟨rfl, rfl, rfl, rfl, by omega, by omega, GZ.rf hTv hUv, rfl, fun _ _ => rfl, fun _ _ => rfl, fun i i0 i1 => by omega⟩
    intro y2 y3 y4 y5 y6 w hJ
    obtain ⟨f2, f3, f4, f5, j0, j1, gw, w1, wz, wl, wh⟩ := hJ
    rw [f2, f3, f4, f5]
    have hTw := gw.1
    have hUw := gw.2.1
    unfold pw_pathsOf_140b
    refine ⟨fun he => ?_, fun he => ?_⟩
    · intro _ _
      obtain ⟨nqw, eqw⟩ := nq.mono hTv gw
      rw [eq] at eqw
      refine p_notOf hTw hUw (by rw [w1, v71]; exact h71) nqw.1 nqw.2.1 nqw.2.2.1 (fun hn => ?_) (fun nk t gt nk0 nk1 enk tmk t61 => ?_)
      · obtain ⟨x, ex, _⟩ := Ob.wt_one nqw.2.2.2 hn not_q (arOf_not E)
        exact ⟨x, ex⟩
      rw [eqw] at enk t61
      have hzn := sz_neg wq
      have t61' : t.1 61 = 0 := by
        rw [t61]
        unfold nb
        split
        · rw [w1]; exact v61
        · unfold bw
          rw [if_neg (by rw [w1]; exact not_not_intro v61), if_neg (by omega)]
      have nnk : Nd t E nk := ⟨nk0, nk1, tmk, by rw [enk]; exact wt_neg wq⟩
      have fx : ∀ z, 123 ≤ z → z ≤ 129 → t.1 z = w.1 z ∧ t.2.1 z = w.2.1 z := fun z z0 z1 => gt.1.2.2.2.2 z (by
        unfold f7M fI
        simp only [Bool.or_eq_false_iff, decide_eq_false_iff_not]
        omega)
      have gvt : GZ f7H v t := gw.tr (gt.1.mono f7M_H)
      have hTt := gvt.1
      have hUt := gvt.2.1
      intro _ _ t1 et1 _ _ _ _ _ t2 et2 _ _ _ t3 et3 _ _ _ _ t4 et4
      have g4 : GZ f7H t t4 := by
        rw [et4, et3, et2, et1]
        exact GZ_eq (GZ.rf hTt hUt) (fun z hz => ⟨rfl, ((if_neg (by omega)).trans (if_neg (by omega))).trans ((if_neg (by omega)).trans (if_neg (by omega)))⟩) rfl ((((Fx_A (by decide)).tr (Fx_A (by decide))).tr (Fx_A (by decide))).tr (Fx_A (by decide)))
      have a1 : t4.1 = t.1 := by rw [et4, et3, et2, et1]; rfl
      have az : ∀ z, z ≠ 128 → z ≠ 129 → t4.2.1 z = t.2.1 z := fun z y1 y2 => by rw [et4, et3, et2, et1]; exact ((if_neg y2).trans (if_neg y2)).trans ((if_neg y1).trans (if_neg y1))
      have a128 : ∀ i, t4.2.1 128 i = if i = 64 * ((m : Int) + 1) + k then tq else if i = 64 * (m : Int) + k then nk else t.2.1 128 i := fun i => by rw [et4, et3, et2, et1]; rfl
      have a129 : ∀ i, t4.2.1 129 i = if i = (m : Int) + 1 then k + 1 else if i = (m : Int) then k + 1 else t.2.1 129 i := fun i => by rw [et4, et3, et2, et1]; rfl
      clear et1 et2 et3 et4
      have gv4 : GZ f7H v t4 := gvt.tr g4
      obtain ⟨no4, eo4⟩ := no.mono hTv gv4
      rw [← eo4] at hif
      refine p_it gv4.1 no4 hif ifS_q (arOf_ifS E) (by decide) (by decide) (by decide) (fun tc nc ec => ?_)
      have ec : ob t4 tc = c := by rw [ec, eo4, eO]; rfl
      intro _ _ t5 et5 _
      have g5 : GZ f7H t4 t5 := by
        rw [et5]
        exact GZ_eq (GZ.rf gv4.1 gv4.2.1) (fun z hz => ⟨rfl, if_neg (by omega)⟩) rfl (Fx_A (by decide))
      have gv5 := gv4.tr g5
      obtain ⟨no5, eo5⟩ := no.mono hTv gv5
      rw [eo4, ← eo5] at hif
      refine p_it gv5.1 no5 hif ifS_q (arOf_ifS E) (by decide) (by decide) (by decide) (fun tb nb' eb => ?_)
      have eb : ob t5 tb = b := by rw [eb, eo5, eO]; rfl
      intro _ _ t6 et6 _
      have g6 : GZ f7H t5 t6 := by
        rw [et6]
        exact GZ_eq (GZ.rf gv5.1 gv5.2.1) (fun z hz => ⟨rfl, if_neg (by omega)⟩) rfl (Fx_A (by decide))
      have gv6 := gv5.tr g6
      have b1 : t6.1 = t.1 := by rw [et6, et5]; exact a1
      have bz : ∀ z, z ≠ 127 → z ≠ 128 → z ≠ 129 → t6.2.1 z = t.2.1 z := fun z y0 y1 y2 => by rw [et6, et5]; exact ((if_neg y0).trans (if_neg y0)).trans (az z y1 y2)
      have b127 : ∀ i, t6.2.1 127 i = if i = (m : Int) + 1 then tb else if i = (m : Int) then tc else t.2.1 127 i := fun i => by
        rw [et6, et5]
        show (if i = (m : Int) + 1 then tb else if i = (m : Int) then tc else t4.2.1 127 i) = _
        rw [az 127 (by decide) (by decide)]
      have b128 : ∀ i, t6.2.1 128 i = if i = 64 * ((m : Int) + 1) + k then tq else if i = 64 * (m : Int) + k then nk else t.2.1 128 i := fun i => by rw [et6, et5]; exact a128 i
      have b129 : ∀ i, t6.2.1 129 i = if i = (m : Int) + 1 then k + 1 else if i = (m : Int) then k + 1 else t.2.1 129 i := fun i => by rw [et6, et5]; exact a129 i
      have ntb := nb'.mono gv5.1 g6
      have ntc := nc.mono gv4.1 (g5.tr g6)
      have ntq := nq.mono hTv gv6
      have ntk := nnk.mono hTt ((g4.tr g5).tr g6)
      rw [eb] at ntb
      rw [ec] at ntc
      rw [eq] at ntq
      rw [enk] at ntk
      clear et5 et6 az a128 a129 a1
      have q128 : ∀ i, i < 64 * ((m : Int) + 1) → t.2.1 128 i = v.2.1 128 i := fun i hi => by rw [(fx 128 (by decide) (by decide)).2]; exact wl i hi
      have p128 : ∀ i, 0 ≤ i → i < k → t.2.1 128 (64 * ((m : Int) + 1) + i) = v.2.1 128 (64 * (m : Int) + i) := fun i i0 i1 => by rw [(fx 128 (by decide) (by decide)).2]; exact wh i i0 (by omega)
      have q127 : t.2.1 127 = v.2.1 127 := by rw [(fx 127 (by decide) (by decide)).2]; exact wz 127 (by decide)
      have q129 : t.2.1 129 = v.2.1 129 := by rw [(fx 129 (by decide) (by decide)).2]; exact wz 129 (by decide)
      have low : ∀ i, 0 ≤ i → i < (m : Int) → EntOk t6 E 127 128 129 i ∧ ent t6 127 128 129 i = ent v 127 128 129 i := by
        intro i i0 i1
        have hi := hS i i0 (by omega)
        have := Ob.sz_pos (ob v (v.2.1 127 i))
        refine hi.to hTv gv6 ?_ ?_ (fun z z0 z1 => ?_)
        · rw [b127, if_neg (by omega), if_neg (by omega), q127]
        · rw [b129, if_neg (by omega), if_neg (by omega), q129]
        · have := hi.1.2.2
          rw [b128, if_neg (by omega), if_neg (by omega), q128 _ (by omega)]
      have rul : ∀ z, 0 ≤ z → z < k → (t6.2.1 128 (64 * (m : Int) + z) = v.2.1 128 (64 * (m : Int) + z)) ∧ t6.2.1 128 (64 * ((m : Int) + 1) + z) = v.2.1 128 (64 * (m : Int) + z) := by
        intro z z0 z1
        refine ⟨?_, ?_⟩
        · rw [b128, if_neg (by omega), if_neg (by omega), q128 _ (by omega)]
        · rw [b128, if_neg (by omega), if_neg (by omega), p128 z z0 z1]
      have hEr : ∀ z, 0 ≤ z → z < k → Nd t6 E (v.2.1 128 (64 * (m : Int) + z)) ∧ ob t6 (v.2.1 128 (64 * (m : Int) + z)) = ob v (v.2.1 128 (64 * (m : Int) + z)) ∧ (ob v (v.2.1 128 (64 * (m : Int) + z))).sz ≤ 119 := by
        intro z z0 z1
        obtain ⟨n1, n2⟩ := hE.2 z z0 (by rw [← ek]; exact z1)
        have n3 := n1.mono hTv gv6
        exact ⟨n3.1, n3.2, n2⟩
      have lsE : (ent v 127 128 129 (m : Int)).1 = ls v (v.2.1 128) (64 * (m : Int)) k.toNat := by unfold ent; rw [ek]
      have oE : (ent v 127 128 129 (m : Int)).2 = .pr Ob.ifS (.pr q (.pr b (.pr c Ob.nil))) := by
        show ob v (v.2.1 127 (m : Int)) = _
        rw [← eo, eO]
      have entC : EntOk t6 E 127 128 129 (m : Int) ∧ ent t6 127 128 129 (m : Int) = (ls v (v.2.1 128) (64 * (m : Int)) k.toNat ++ [Ob.neg q], c) := by
        have c127 : t6.2.1 127 (m : Int) = tc := by rw [b127, if_neg (by omega), if_pos rfl]
        have c129 : t6.2.1 129 (m : Int) = k + 1 := by rw [b129, if_neg (by omega), if_pos rfl]
        have c128 : t6.2.1 128 (64 * (m : Int) + k) = nk := by rw [b128, if_neg (by omega), if_pos rfl]
        refine ⟨⟨⟨by rw [c127]; exact ntc.1, by omega, by rw [c127, c129, ntc.2]; omega⟩, fun z z0 z1 => ?_⟩, ?_⟩
        · rw [c129] at z1
          by_cases cz : z = k
          · rw [cz, c128]; exact ⟨ntk.1, by rw [ntk.2]; omega⟩
          · rw [(rul z z0 (by omega)).1]
            have := hEr z z0 (by omega)
            exact ⟨this.1, by rw [this.2.1]; exact this.2.2⟩
        · unfold ent
          rw [c127, c129, ntc.2, show (k + 1).toNat = k.toNat + 1 by omega, ls_snoc, show (64 * (m : Int) + (k.toNat : Int)) = 64 * (m : Int) + k by omega, c128, ntk.2]
          refine congrArg (fun l => (l ++ [Ob.neg q], c)) (ls_congr (fun i hi => ?_))
          rw [(rul (i : Int) (by omega) (by omega)).1]
          exact (hEr (i : Int) (by omega) (by omega)).2.1
      have entB : EntOk t6 E 127 128 129 ((m + 1 : Nat) : Int) ∧ ent t6 127 128 129 ((m + 1 : Nat) : Int) = (ls v (v.2.1 128) (64 * (m : Int)) k.toNat ++ [q], b) := by
        rw [show ((m + 1 : Nat) : Int) = (m : Int) + 1 by omega]
        have c127 : t6.2.1 127 ((m : Int) + 1) = tb := by rw [b127, if_pos rfl]
        have c129 : t6.2.1 129 ((m : Int) + 1) = k + 1 := by rw [b129, if_pos rfl]
        have c128 : t6.2.1 128 (64 * ((m : Int) + 1) + k) = tq := by rw [b128, if_pos rfl]
        refine ⟨⟨⟨by rw [c127]; exact ntb.1, by omega, by rw [c127, c129, ntb.2]; omega⟩, fun z z0 z1 => ?_⟩, ?_⟩
        · rw [c129] at z1
          by_cases cz : z = k
          · rw [cz, c128]; exact ⟨ntq.1, by rw [ntq.2]; omega⟩
          · rw [(rul z z0 (by omega)).2]
            have := hEr z z0 (by omega)
            exact ⟨this.1, by rw [this.2.1]; exact this.2.2⟩
        · unfold ent
          rw [c127, c129, ntb.2, show (k + 1).toNat = k.toNat + 1 by omega, ls_snoc, show (64 * ((m : Int) + 1) + (k.toNat : Int)) = 64 * ((m : Int) + 1) + k by omega, c128, ntq.2]
          refine congrArg (fun l => (l ++ [q], b)) (ls_congr (fun i hi => ?_))
          rw [(rul (i : Int) (by omega) (by omega)).2]
          exact (hEr (i : Int) (by omega) (by omega)).2.1
      have hP6 := hP.mono hTv gv6 (by rw [b1, (fx 126 (by decide) (by decide)).1, w1]) (by rw [bz 123 (by decide) (by decide) (by decide), (fx 123 (by decide) (by decide)).2, wz 123 (by decide)]) (by rw [bz 124 (by decide) (by decide) (by decide), (fx 124 (by decide) (by decide)).2, wz 124 (by decide)]) (by rw [bz 125 (by decide) (by decide) (by decide), (fx 125 (by decide) (by decide)).2, wz 125 (by decide)])
      refine ⟨m + 1 + 1, by omega, gv.tr gv6, ?_, ?_, hP6.1, fun i i0 i1 => ?_, ?_⟩
      · rw [b1, gt.2.1, w1, v71]
      · rw [b1]; exact t61'
      · by_cases c1 : i = (m : Int)
        · rw [c1]; exact entC.1
        · by_cases c2 : i = ((m + 1 : Nat) : Int)
          · rw [c2]; exact entB.1
          · exact (low i i0 (by omega)).1
      · rw [hP6.2, stP_succ, stP_succ, entB.2, entC.2, stP_congr (fun i hi => (low (i : Int) (by omega) (by omega)).2), ← hL, lsE, oE, pth_if, List.append_assoc]
    · intro _ _ _ _ _ _ _ z ez _ _ _ t et _
      have gt : GZ f7H w t := by
        rw [et]
        exact GZ_eq (GZ.rf hTw hUw) (fun y hy => ⟨rfl, if_neg (by omega)⟩) rfl (Fx_A (by decide))
      have rw128 : ∀ i, t.2.1 128 i = if i = 64 * ((m : Int) + 1) + y6 then z else w.2.1 128 i := fun i => by rw [et]; rfl
      refine ⟨rfl, rfl, rfl, rfl, by omega, by omega, gw.tr gt, by rw [et]; exact w1, fun y hy => by rw [et]; exact (if_neg hy).trans (wz y hy), fun i hi => ?_, fun i i0 i1 => ?_⟩
      · rw [rw128, if_neg (by omega)]; exact wl i hi
      · rw [rw128]
        by_cases c : i = y6
        · rw [if_pos (by omega), ez, c]; exact wl _ (by omega)
        · rw [if_neg (by omega)]; exact wh i i0 (by omega)
  · -- an end
    have hno := hr.f (Decidable.not_not.mp hd)
    have p0 := hP.1
    intro z ez _ _ _ w1 ew1 z2 ez2 _ _ _ w2 ew2
    have ez2' : z2 = v.1 126 := by rw [ez2, ew1]; rfl
    rw [ez2'] at ew2
    rw [ez] at ew1
    have g2 : GZ f7H v w2 := by
      rw [ew2, ew1]
      exact GZ_eq (GZ.rf hTv hUv) (fun z hz => ⟨rfl, (if_neg (by omega)).trans (if_neg (by omega))⟩) rfl ((Fx_A (by decide)).tr (Fx_A (by decide)))
    have a1 : w2.1 = v.1 := by rw [ew2, ew1]; rfl
    have az : ∀ z, z ≠ 123 → z ≠ 125 → w2.2.1 z = v.2.1 z := fun z y1 y2 => by rw [ew2, ew1]; exact (if_neg y2).trans (if_neg y1)
    have a123 : ∀ i, w2.2.1 123 i = if i = v.1 126 then o else v.2.1 123 i := fun i => by rw [ew2, ew1]; rfl
    have a125 : ∀ i, w2.2.1 125 i = if i = v.1 126 then k else v.2.1 125 i := fun i => by rw [ew2, ew1]; rfl
    clear ew1 ew2 ez ez2
    refine pw_pathsOf_76_i (fun y2 y4 y5 w => y2 = (m : Int) ∧ y4 = k ∧ 0 ≤ y5 ∧ y5 ≤ k ∧ GZ f7H w2 w ∧ w.1 = w2.1 ∧ (∀ z, z ≠ 124 → w.2.1 z = w2.2.1 z) ∧ (∀ i, i < 64 * v.1 126 → w.2.1 124 i = w2.2.1 124 i) ∧ ∀ i, 0 ≤ i → i < y5 → w.2.1 124 (64 * v.1 126 + i) = v.2.1 128 (64 * (m : Int) + i)) ?_ ⟨rfl, rfl, by omega, by omega, GZ.rf g2.1 g2.2.1, rfl, fun _ _ => rfl, fun _ _ => rfl, fun i i0 i1 => by omega⟩
    intro y2 y4 y5 w hJ
    obtain ⟨f2, f4, j0, j1, gw, w1, wz, wl, wh⟩ := hJ
    rw [f2, f4]
    unfold pw_pathsOf_76b
    refine ⟨fun he => ?_, fun he => ?_⟩
    · intro z ez _ _ t et
      rw [w1, a1] at ez
      rw [ez] at et
      have gt : GZ f7H w t := by
        rw [et]
        exact GZ_eq (GZ.rf gw.1 gw.2.1) (fun y hy => ⟨if_neg (by omega), rfl⟩) rfl (Fx_I (by decide))
      have gvt := (g2.tr gw).tr gt
      have t126 : t.1 126 = v.1 126 + 1 := by rw [et]; rfl
      have tn : ∀ y, y ≠ 126 → t.1 y = v.1 y := fun y hy => by rw [et]; exact (if_neg hy).trans (by rw [w1, a1])
      have t2 : t.2.1 = w.2.1 := by rw [et]; rfl
      clear et
      have y5k : y5 = k := by omega
      have low : ∀ p, 0 ≤ p → p < v.1 126 → EntOk t E 123 124 125 p ∧ ent t 123 124 125 p = ent v 123 124 125 p := by
        intro p q0 q1
        have hp := hP.2 p q0 q1
        have := Ob.sz_pos (ob v (v.2.1 123 p))
        refine hp.to hTv gvt ?_ ?_ (fun y y0 y1 => ?_)
        · rw [t2, wz 123 (by decide), a123, if_neg (by omega)]
        · rw [t2, wz 125 (by decide), a125, if_neg (by omega)]
        · have := hp.1.2.2
          rw [t2, wl _ (by omega), az 124 (by decide) (by decide)]
      have new : EntOk t E 123 124 125 (v.1 126) ∧ ent t 123 124 125 (v.1 126) = ent v 127 128 129 (m : Int) := by
        refine hE.to hTv gvt ?_ ?_ (fun y y0 y1 => ?_)
        · rw [t2, wz 123 (by decide), a123, if_pos rfl, eo]
        · rw [t2, wz 125 (by decide), a125, if_pos rfl, ek]
        · rw [t2]; exact wh y y0 (by omega)
      have stk' : ∀ i, 0 ≤ i → i < (m : Int) → EntOk t E 127 128 129 i ∧ ent t 127 128 129 i = ent v 127 128 129 i := by
        intro i i0 i1
        refine (hS i i0 (by omega)).to hTv gvt ?_ ?_ (fun y _ _ => ?_)
        · rw [t2, wz 127 (by decide), az 127 (by decide) (by decide)]
        · rw [t2, wz 129 (by decide), az 129 (by decide) (by decide)]
        · rw [t2, wz 128 (by decide), az 128 (by decide) (by decide)]
      refine ⟨m, rfl, gv.tr gvt, by rw [tn 71 (by decide)]; exact v71, by rw [tn 61 (by decide)]; exact v61, ⟨by omega, fun p q0 q1 => ?_⟩, fun i i0 i1 => (stk' i i0 i1).1, ?_⟩
      · by_cases c : p = v.1 126
        · rw [c]; exact new.1
        · exact (low p q0 (by omega)).1
      · have hl : pthL t = pthL v ++ [ent v 127 128 129 (m : Int)] := by
          unfold pthL
          rw [t126, show (v.1 126 + 1).toNat = (v.1 126).toNat + 1 by omega, List.range_succ, List.map_append]
          refine congr (congrArg _ (List.map_congr_left (fun p hp => ?_))) ?_
          · have := List.mem_range.mp hp
            exact (low (p : Int) (by omega) (by omega)).2
          · show [ent t 123 124 125 (((v.1 126).toNat : Nat) : Int)] = _
            rw [show (((v.1 126).toNat : Nat) : Int) = v.1 126 by omega, new.2]
        rw [hl, stP_congr (fun i hi => (stk' (i : Int) (by omega) (by omega)).2), ← hL, List.append_assoc]
        have : pth (ent v 127 128 129 (m : Int)).1 (ent v 127 128 129 (m : Int)).2 = [ent v 127 128 129 (m : Int)] := by
          refine pth_no ?_
          show (ob v (v.2.1 127 (m : Int))).isCallOf Ob.ifS = false
          rw [← eo]; exact hno
        rw [this]
    · intro z ez _ _ _ _ _ _ _ y ey _ _ _ t et _
      rw [w1, a1] at ez
      rw [ez] at et
      have gt : GZ f7H w t := by
        rw [et]
        exact GZ_eq (GZ.rf gw.1 gw.2.1) (fun y hy => ⟨rfl, if_neg (by omega)⟩) rfl (Fx_A (by decide))
      have rw124 : ∀ i, t.2.1 124 i = if i = 64 * v.1 126 + y5 then y else w.2.1 124 i := fun i => by rw [et]; rfl
      refine ⟨rfl, rfl, by omega, by omega, gw.tr gt, by rw [et]; exact w1, fun q hq' => by rw [et]; exact (if_neg hq').trans (wz q hq'), fun i hi => ?_, fun i i0 i1 => ?_⟩
      · rw [rw124, if_neg (by omega)]; exact wl i hi
      · rw [rw124]
        by_cases c : i = y5
        · rw [if_pos (by omega), ey, c, wz 128 (by decide), az 128 (by decide) (by decide)]
        · rw [if_neg (by omega)]; exact wh i i0 (by omega)
