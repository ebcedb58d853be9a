-- deps: 765
/-! the class: rules turned off by a hint; the book's entries -/
theorem to_13 [DecidableEq Ob] {y w : iST} {ds : List Sp.Dfn} {ts : List Sp.Thm} {m m' : List Ob} (h : TOc y (ds, ts, m)) (hn : w.1 = y.1) (hc : w.2.2 = y.2.2) (hr : ∀ k, k ≠ 13 → w.2.1 k = y.2.1 k) (h13 : ∀ r : Nat, (r : Int) < y.1 1 → (w.2.1 13 (r : Int) ≠ 0 ↔ Ob.has m' (oc y (y.2.1 5 (r : Int))) = true)) : TOc w (ds, ts, m') := by
  have eo : ∀ k, oc w k = oc y k := fun k => oc_same hc k
  have r5 := hr 5 (by decide)
  have r6 := hr 6 (by decide)
  have r7 := hr 7 (by decide)
  have r8 := hr 8 (by decide)
  have r9 := hr 9 (by decide)
  have r10 := hr 10 (by decide)
  have r11 := hr 11 (by decide)
  have r12 := hr 12 (by decide)
  have r50 := hr 50 (by decide)
  obtain ⟨hl, h⟩ := h
  refine ⟨by rw [hn]; exact hl, fun r hr' => ?_⟩
  rw [hn] at hr'
  obtain ⟨a, ⟨k, e, c⟩, _⟩ := h r hr'
  refine ⟨?_, ⟨k, e, ?_⟩, ?_⟩
  · unfold Th1c NdC VN at a ⊢
    simp only [r5, r6, r7, r8, r9, r50, eo, hn]
    exact a
  · unfold thC rulC hypC at c ⊢
    simp only [r5, r6, r7, r8, r9, r10, r11, r12, r50, eo]
    exact c
  · rw [r5, eo]
    exact h13 r hr'
/-- no two theorems have one name -/
def NmC [DecidableEq Ob] (u : iST) : Prop := ∀ r r' : Nat, (r : Int) < u.1 1 → (r' : Int) < u.1 1 → oc u (u.2.1 5 (r : Int)) = oc u (u.2.1 5 (r' : Int)) → r = r'
theorem NmC.of [DecidableEq Ob] {u : iST} {E : Sp.Env} (h : TOc u E) (hd : (E.thms.map (fun k => k.1)).Nodup) : NmC u := fun r r' hr hr' e => by
  obtain ⟨_, ⟨k, e1, c1⟩, _⟩ := h.2 r hr
  obtain ⟨_, ⟨k', e2, c2⟩, _⟩ := h.2 r' hr'
  have ek : k.1 = k'.1 := c1.1.trans (e.trans c2.1.symm)
  have l1 := (List.getElem?_eq_some_iff.mp e1).1
  have l2 := (List.getElem?_eq_some_iff.mp e2).1
  have g1 : (E.thms.map (fun k => k.1))[r]? = some k.1 := by rw [List.getElem?_map, e1]; rfl
  have g2 : (E.thms.map (fun k => k.1))[r']? = some k.1 := by rw [List.getElem?_map, e2, ek]; rfl
  exact (List.getElem?_inj (by rw [List.length_map]; exact l1) hd).mp (g1.trans g2.symm)
theorem has_snoc [DecidableEq Ob] (m : List Ob) (n o : Ob) : Ob.has (m ++ [n]) o = true ↔ Ob.has m o = true ∨ n = o := by
  rw [Ob.has_iff, Ob.has_iff, List.mem_append, List.mem_singleton]
  exact ⟨fun h => h.imp id Eq.symm, fun h => h.imp id Eq.symm⟩
theorem pc_mute [DecidableEq Ob] {a : Int} {Q : iST → Prop} {u : iST} {ds : List Sp.Dfn} {ts : List Sp.Thm} {hs : List Ob} (hT : CT u) (hTo : TOc u (ds, ts, [])) (hNm : NmC u) (va : VN u a) (ea : Ob.toList (oc u a) = hs) (hq : ∀ v, CG f80 (fun k => decide (k = 13)) u v → v.1 = u.1 → v.2.2 = u.2.2 → (∀ k, k ≠ 13 → v.2.1 k = u.2.1 k) → TOc v (ds, ts, Sp.offsOf hs) → Q v) : pv_8_mute a Q u := by
  have off_cons : ∀ (h : Ob) (l : List Ob), Sp.offsOf (h :: l) = (if Ob.lft h = Ob.off then Ob.toList (Ob.rgt h) else []) ++ Sp.offsOf l := fun h l => by
    unfold Sp.offsOf
    by_cases c : Ob.lft h = Ob.off
    · rw [List.filter_cons_of_pos (by exact decide_eq_true c), List.flatMap_cons, if_pos c]
    · rw [List.filter_cons_of_neg (by rw [decide_eq_false c]; decide), if_neg c]
      rfl
  unfold pv_8_mute
  refine pv_8_mute_2_i (fun x2 y => CG f80 (fun k => decide (k = 13)) u y ∧ y.1 = u.1 ∧ y.2.2 = u.2.2 ∧ (∀ k, k ≠ 13 → y.2.1 k = u.2.1 k) ∧ VN u x2 ∧ ∃ m, m ++ Sp.offsOf (Ob.toList (oc u x2)) = Sp.offsOf hs ∧ TOc y (ds, ts, m)) ?_ ⟨CG.rf hT, rfl, rfl, fun _ _ => rfl, va, [], by rw [ea]; rfl, hTo⟩
  rintro x2 y ⟨gy, yn, yc, yr, vx, m, em, hTy⟩
  have eo : ∀ k, oc y k = oc u k := fun k => oc_same yc k
  have vv : ∀ {k : Int}, VN u k → VN y k := fun h => h.up gy
  have back : ∀ {k : Int}, VN y k → VN u k := fun h => ⟨h.1, by rw [← yn]; exact h.2⟩
  unfold pv_8_mute_2b
  refine pc_isPair gy.1 (vv vx) (fun r hr => ⟨fun z => ?_, fun z => ?_⟩)
  · have hno := hr.f z
    rw [eo] at hno
    refine hq y gy yn yc yr ?_
    cases e : oc u x2 with
    | op p l => rw [e] at hno; cases hno
    | var w =>
      rw [e] at em
      have em : m ++ [] = Sp.offsOf hs := em
      rw [List.append_nil] at em
      rw [← em]; exact hTy
  have hpr := hr.t z
  rw [eo] at hpr
  cases e : oc u x2 with
  | var w => rw [e] at hpr; cases hpr
  | op h l =>
    rw [e] at em
    have em : m ++ Sp.offsOf (h :: Ob.toList l) = Sp.offsOf hs := em
    rw [off_cons, ← List.append_assoc] at em
    refine pc_left gy.1 (vv vx) (fun v2 vv2 e2 => ?_)
    rw [eo, eo, e] at e2
    have e2 : oc u v2 = h := e2
    refine pc_left gy.1 vv2 (fun v3 vv3 e3 => ?_)
    have kO := katC gy.1 24 (o := Ob.off) (by decide) (by decide) rfl vv3.1 vv3.2
    rw [e3, eo v2, e2] at kO
    -- the names
    have names : ∀ (x5 : Int), VN u x5 → m ++ Ob.toList (oc u x5) ++ Sp.offsOf (Ob.toList l) = Sp.offsOf hs → pv_8_mute_47 (fun x2 y => CG f80 (fun k => decide (k = 13)) u y ∧ y.1 = u.1 ∧ y.2.2 = u.2.2 ∧ (∀ k, k ≠ 13 → y.2.1 k = u.2.1 k) ∧ VN u x2 ∧ ∃ m, m ++ Sp.offsOf (Ob.toList (oc u x2)) = Sp.offsOf hs ∧ TOc y (ds, ts, m)) Q x2 x5 y := by
      intro x5 v5 e5
      unfold pv_8_mute_47
      refine pv_8_mute_53_i (fun y2 x5 w => y2 = x2 ∧ CG f80 (fun k => decide (k = 13)) u w ∧ w.1 = u.1 ∧ w.2.2 = u.2.2 ∧ (∀ k, k ≠ 13 → w.2.1 k = u.2.1 k) ∧ VN u x5 ∧ ∃ m, m ++ Ob.toList (oc u x5) ++ Sp.offsOf (Ob.toList l) = Sp.offsOf hs ∧ TOc w (ds, ts, m)) ?_ ⟨rfl, gy, yn, yc, yr, v5, m, e5, hTy⟩
      rintro y2 x5 w ⟨b2, gw, wn, wc, wr, v5, m, em, hTw⟩
      rw [b2]
      have ew : ∀ k, oc w k = oc u k := fun k => oc_same wc k
      have backw : ∀ {k : Int}, VN w k → VN u k := fun h => ⟨h.1, by rw [← wn]; exact h.2⟩
      unfold pv_8_mute_53b
      refine pc_isPair gw.1 (v5.up gw) (fun r5 h5 => ⟨fun z5 => ?_, fun z5 => ?_⟩)
      · have hno := h5.f z5
        rw [ew] at hno
        refine pc_right gw.1 (vx.up gw) (fun t vt et => ?_)
        rw [ew, ew, e] at et
        have et : oc u t = l := et
        refine ⟨gw, wn, wc, wr, backw vt, m, ?_, hTw⟩
        rw [et]
        cases e5 : oc u x5 with
        | op p l => rw [e5] at hno; cases hno
        | var q =>
          rw [e5] at em
          have em : m ++ [] ++ Sp.offsOf (Ob.toList l) = Sp.offsOf hs := em
          rw [List.append_nil] at em
          exact em
      have hp5 := h5.t z5
      rw [ew] at hp5
      cases e5 : oc u x5 with
      | var q => rw [e5] at hp5; cases hp5
      | op n rest =>
        rw [e5] at em
        have em : m ++ (n :: Ob.toList rest) ++ Sp.offsOf (Ob.toList l) = Sp.offsOf hs := em
        have em : (m ++ [n]) ++ Ob.toList rest ++ Sp.offsOf (Ob.toList l) = Sp.offsOf hs := by
          rw [← em]
          simp only [List.append_assoc, List.cons_append, List.nil_append]
        refine pc_left gw.1 (v5.up gw) (fun v6 vv6 e6 => ?_)
        rw [ew, ew, e5] at e6
        have e6 : oc u v6 = n := e6
        have fin : ∀ z, CG f80 (fun k => decide (k = 13)) u z → z.1 = u.1 → z.2.2 = u.2.2 → (∀ k, k ≠ 13 → z.2.1 k = u.2.1 k) → TOc z (ds, ts, m ++ [n]) → pv_8_mute_100 (fun x2 y => CG f80 (fun k => decide (k = 13)) u y ∧ y.1 = u.1 ∧ y.2.2 = u.2.2 ∧ (∀ k, k ≠ 13 → y.2.1 k = u.2.1 k) ∧ VN u x2 ∧ ∃ m, m ++ Sp.offsOf (Ob.toList (oc u x2)) = Sp.offsOf hs ∧ TOc y (ds, ts, m)) (fun y2 x5 w => y2 = x2 ∧ CG f80 (fun k => decide (k = 13)) u w ∧ w.1 = u.1 ∧ w.2.2 = u.2.2 ∧ (∀ k, k ≠ 13 → w.2.1 k = u.2.1 k) ∧ VN u x5 ∧ ∃ m, m ++ Ob.toList (oc u x5) ++ Sp.offsOf (Ob.toList l) = Sp.offsOf hs ∧ TOc w (ds, ts, m)) Q x2 x5 z := by
          intro z gz zn zc zr hTz
          unfold pv_8_mute_100
          refine pc_right gz.1 (v5.up gz) (fun t vt et => ?_)
          have ez : ∀ k, oc z k = oc u k := fun k => oc_same zc k
          rw [ez, ez, e5] at et
          have et : oc u t = rest := et
          exact ⟨rfl, gz, zn, zc, zr, ⟨vt.1, by rw [← zn]; exact vt.2⟩, m ++ [n], by rw [et]; exact em, hTz⟩
        have w5r : w.2.1 5 = u.2.1 5 := wr 5 (by decide)
        refine pc_theoremOf gw.1 hTw vv6 (fun hno => ⟨fun _ => ?_, fun q => absurd rfl q⟩) (fun j k hj hk hj5 hth => ⟨fun q => by omega, fun _ => ?_⟩)
        · rw [ew, e6] at hno
          refine fin w gw wn wc wr (to_13 hTw rfl rfl (fun _ _ => rfl) (fun r hr' => ?_))
          rw [has_snoc]
          obtain ⟨_, ⟨k, ek, ck⟩, h13⟩ := hTw.2 r hr'
          refine ⟨fun q => Or.inl (h13.mp q), fun q => ?_⟩
          rcases q with q | q
          · exact h13.mpr q
          · exfalso
            have hm : k ∈ ts := List.mem_of_getElem? ek
            have := List.find?_eq_none.mp hno k hm
            exact this (decide_eq_true (ck.1.trans q.symm))
        · intro _ _ _ w1 ew1
          have w1n : w1.1 = w.1 := by rw [ew1]; rfl
          have w1c : w1.2.2 = w.2.2 := by rw [ew1]; rfl
          have w1r : ∀ k, k ≠ 13 → w1.2.1 k = w.2.1 k := fun k hk => by rw [ew1]; exact iAc_ne _ _ _ hk
          have g1 : CG f80 (fun k => decide (k = 13)) w w1 := by rw [ew1]; exact CG_A gw.1 (by omega) (by decide)
          have r13 : ∀ i, w1.2.1 13 i = if i = (j : Int) then 1 else w.2.1 13 i := fun i => by rw [ew1]; rfl
          have en : oc w (w.2.1 5 (j : Int)) = n := by rw [hj5, ew]; exact e6
          refine fin w1 (gw.tr g1) (w1n.trans wn) (w1c.trans wc) (fun k hk => (w1r k hk).trans (wr k hk)) (to_13 hTw w1n w1c w1r (fun r hr' => ?_))
          rw [has_snoc, r13]
          obtain ⟨_, _, h13⟩ := hTw.2 r hr'
          by_cases c : (r : Int) = (j : Int)
          · rw [if_pos c]
            refine ⟨fun _ => Or.inr ?_, fun _ => by decide⟩
            rw [c]; exact en.symm
          · rw [if_neg c]
            refine ⟨fun q => Or.inl (h13.mp q), fun q => ?_⟩
            rcases q with q | q
            · exact h13.mpr q
            · exfalso
              have h1 : oc u (u.2.1 5 (r : Int)) = oc u (u.2.1 5 (j : Int)) := by
                rw [← w5r, ← ew, ← ew, ← q, en]
              have := hNm r j (by rw [← wn]; exact hr') (by rw [← wn]; exact hj) h1
              omega
    obtain ⟨z0, z1⟩ := VN.zero hT
    refine ⟨fun q => ?_, fun q => ?_⟩
    · rw [if_neg (fun q2 => q (kO.mpr q2))] at em
      exact names 0 z0 (by rw [z1]; exact em)
    · rw [if_pos (kO.mp (Decidable.not_not.mp q))] at em
      refine pc_right gy.1 vv2 (fun v9 vv9 e9 => ?_)
      rw [eo, eo v2, e2] at e9
      exact names v9 (back vv9) (by rw [e9]; exact em)
theorem pc_enter [DecidableEq Ob] {k mk : Int} {Q : iST → Prop} {u : iST} (hT : CT u) (h2 : u.1 2 < 100) (hq : ∀ v, CG (fun j => decide (2 ≤ j ∧ j ≤ 3)) (fun j => decide (14 ≤ j ∧ j ≤ 15)) u v → v.2.2 = u.2.2 → (∀ j, j ≠ 2 → j ≠ 3 → v.1 j = u.1 j) → v.1 2 = u.1 2 + 1 → v.1 3 = mk → (∀ i, v.2.1 14 i = if i = u.1 2 then k else u.2.1 14 i) → (∀ i, v.2.1 15 i = if i = u.1 2 then u.1 3 else u.2.1 15 i) → (∀ j, j ≠ 14 → j ≠ 15 → v.2.1 j = u.2.1 j) → Q v) : pv_0_enter k mk Q u := by
  unfold pv_0_enter
  intro v1 e1 _
  refine ⟨fun z => by omega, fun _ => ?_⟩
  intro v2 e2 _ _ _ y1 ey1 v3 e3 _ v4 e4 _ _ _ y2 ey2 v5 e5 _ _ y3 ey3 y4 ey4
  have y1n : y1.1 = u.1 := by rw [ey1]; rfl
  rw [y1n] at e3 e4
  have y2n : y2.1 = u.1 := by rw [ey2]; exact y1n
  rw [y2n] at e5
  rw [e2] at ey1
  rw [e3, e4] at ey2
  rw [e5] at ey3
  have g1 : CG (fun j => decide (2 ≤ j ∧ j ≤ 3)) (fun j => decide (14 ≤ j ∧ j ≤ 15)) u y1 := by rw [ey1]; exact CG_A hT (by omega) (by decide)
  have g2 : CG (fun j => decide (2 ≤ j ∧ j ≤ 3)) (fun j => decide (14 ≤ j ∧ j ≤ 15)) y1 y2 := by rw [ey2]; exact CG_A g1.1 (by omega) (by decide)
  have g3 : CG (fun j => decide (2 ≤ j ∧ j ≤ 3)) (fun j => decide (14 ≤ j ∧ j ≤ 15)) y2 y3 := by rw [ey3]; exact CG_I g2.1 (by decide) (by decide)
  have g4 : CG (fun j => decide (2 ≤ j ∧ j ≤ 3)) (fun j => decide (14 ≤ j ∧ j ≤ 15)) y3 y4 := by rw [ey4]; exact CG_I g3.1 (by decide) (by decide)
  have r4 : y4.2.1 = y2.2.1 := by rw [ey4, ey3]; rfl
  refine hq y4 (((g1.tr g2).tr g3).tr g4) (by rw [ey4, ey3, ey2, ey1]; rfl) (fun j h2 h3 => ?_) ?_ ?_ (fun i => ?_) (fun i => ?_) (fun j h1 h2 => ?_)
  · rw [ey4]
    rw [iIc_ne _ _ h3, ey3, iIc_ne _ _ h2, y2n]
  · rw [ey4]
    rw [iIc_ne _ _ (by decide), ey3, iIc_at]
  · rw [ey4, iIc_at]
  · rw [r4, ey2, iAc_ne _ _ _ (by decide), ey1]; rfl
  · rw [r4, ey2]
    show (if i = u.1 2 then u.1 3 else y1.2.1 15 i) = _
    rw [ey1, iAc_ne _ _ _ (by decide)]
  · rw [r4, ey2, iAc_ne _ _ _ h2, ey1, iAc_ne _ _ _ h1]
theorem pc_takeBack [DecidableEq Ob] {Q : iST → Prop} {u : iST} (h2 : 0 < u.1 2) (hq : ∀ v, v.2 = u.2 → (∀ j, 3 < j → v.1 j = u.1 j) → v.1 2 = u.1 2 - 1 → v.1 3 = u.2.1 15 (u.1 2 - 1) → (u.2.1 14 (u.1 2 - 1) = 1 → v.1 0 = u.1 0 - 1 ∧ v.1 1 = u.1 1) → (u.2.1 14 (u.1 2 - 1) ≠ 1 → v.1 0 = u.1 0 ∧ v.1 1 = u.1 1 - 1) → Q v) : pv_0_takeBack Q u := by
  unfold pv_0_takeBack
  intro v1 e1 _
  refine ⟨fun z => by omega, fun _ => ?_⟩
  intro v2 e2 _ _ y1 ey1 v4 e4 _ _ _ v5 e5 _ y2 ey2 v6 e6 _ _ _ v7 e7 _
  have y12 : y1.1 2 = u.1 2 - 1 := by rw [ey1, iIc_at, e2]
  rw [y12] at e4
  have y1r : y1.2 = u.2 := by rw [ey1]; rfl
  rw [y1r, e4] at e5
  have y1o : ∀ j, j ≠ 2 → y1.1 j = u.1 j := fun j hj => by rw [ey1, iIc_ne _ _ hj]
  have y22 : y2.1 2 = u.1 2 - 1 := by rw [ey2, iIc_ne _ _ (by decide)]; exact y12
  have y2r : y2.2 = u.2 := by rw [ey2]; exact y1r
  have y23 : y2.1 3 = u.2.1 15 (u.1 2 - 1) := by rw [ey2, iIc_at, e5]
  have y2o : ∀ j, j ≠ 2 → j ≠ 3 → y2.1 j = u.1 j := fun j h1 h2 => by
    rw [ey2]
    rw [iIc_ne _ _ h2]; exact y1o j h1
  rw [y22] at e6
  rw [y2r, e6] at e7
  refine ⟨fun z => ?_, fun z => ?_⟩
  · rw [e7] at z
    intro v8 e8 _ _ y3 ey3
    rw [y2o 1 (by decide) (by decide)] at e8
    have y3o : ∀ j, j ≠ 1 → y3.1 j = y2.1 j := fun j hj => by rw [ey3, iIc_ne _ _ hj]
    refine hq y3 (by rw [ey3]; exact y2r) (fun j hj => by rw [y3o j (by omega)]; exact y2o j (by omega) (by omega)) (by rw [y3o 2 (by decide)]; exact y22) (by rw [y3o 3 (by decide)]; exact y23) (fun q => absurd q z) (fun _ => ⟨by rw [y3o 0 (by decide)]; exact y2o 0 (by decide) (by decide), by rw [ey3, iIc_at, e8]⟩)
  · rw [e7] at z
    intro v8 e8 _ _ y3 ey3
    rw [y2o 0 (by decide) (by decide)] at e8
    have y3o : ∀ j, j ≠ 0 → y3.1 j = y2.1 j := fun j hj => by rw [ey3, iIc_ne _ _ hj]
    refine hq y3 (by rw [ey3]; exact y2r) (fun j hj => by rw [y3o j (by omega)]; exact y2o j (by omega) (by omega)) (by rw [y3o 2 (by decide)]; exact y22) (by rw [y3o 3 (by decide)]; exact y23) (fun _ => ⟨by rw [ey3, iIc_at, e8], by rw [y3o 1 (by decide)]; exact y2o 1 (by decide) (by decide)⟩) (fun q => absurd (Decidable.not_not.mp z) q)
/-- kinds of the entries -/
def kdC [DecidableEq Ob] (u : iST) : List Int := (List.range (u.1 2).toNat).map (fun i : Nat => u.2.1 14 (i : Int))
theorem kdC_get [DecidableEq Ob] {u : iST} {k : Nat} (h : (k : Int) < u.1 2) : (kdC u)[k]? = some (u.2.1 14 (k : Int)) := by
  unfold kdC
  rw [List.getElem?_map, List.getElem?_range (by omega)]
  rfl
theorem nd_take [DecidableEq Ob] (l : List Int) (k : Nat) (c : Int) (h : l[k]? = some c) : Sp.nd (l.take (k + 1)) = Sp.nd (l.take k) + (if c = 1 then 1 else 0) := by
  rw [List.take_add_one, h]
  show Sp.nd (l.take k ++ [c]) = _
  rw [nd_app]
  show _ + (0 + (if c = 1 then 1 else 0)) = _
  omega
theorem pc_place [DecidableEq Ob] {k : Nat} {Q : Int → iST → Prop} {u : iST} (hk : (k : Int) < u.1 2) (hq : Q (if u.2.1 14 (k : Int) = 1 then (Sp.nd ((kdC u).take k) : Int) else ((k - Sp.nd ((kdC u).take k) : Nat) : Int)) u) : pv_0_placeOf (k : Int) Q u := by
  unfold pv_0_placeOf
  have ndl : ∀ j : Nat, j ≤ k → Sp.nd ((kdC u).take j) ≤ j := fun j hj => by
    have h1 := nd_le ((kdC u).take j)
    have h2 := List.length_take_le j (kdC u)
    omega
  refine pv_0_placeOf_4_i (fun x1 x2 x3 y => x1 = (k : Int) ∧ y = u ∧ ∃ j : Nat, x3 = (j : Int) ∧ j ≤ k ∧ x2 = (if u.2.1 14 (k : Int) = 1 then (Sp.nd ((kdC u).take j) : Int) else ((j - Sp.nd ((kdC u).take j) : Nat) : Int))) ?_ ⟨rfl, rfl, 0, rfl, Nat.zero_le _, by rw [List.take_zero]; split <;> rfl⟩
  rintro x1 x2 x3 y ⟨b1, ey, j, b3, hj, b2⟩
  rw [b1, ey, b3]
  unfold pv_0_placeOf_4b
  refine ⟨fun z => ?_, fun z => ?_⟩
  · have : j = k := by omega
    rw [this] at b2
    rw [b2]; exact hq
  intro v1 e1 _
  refine ⟨fun z2 => by omega, fun _ => ?_⟩
  intro _ _ v2 e2 _
  have gj := kdC_get (u := u) (k := j) (by omega)
  have nt := nd_take _ _ _ gj
  have nl := ndl j hj
  have step : ∀ y1 : Int, (y1 = if u.2.1 14 (j : Int) = 1 then 1 else 0) → pv_0_placeOf_33 (fun x1 x2 x3 y => x1 = (k : Int) ∧ y = u ∧ ∃ j : Nat, x3 = (j : Int) ∧ j ≤ k ∧ x2 = (if u.2.1 14 (k : Int) = 1 then (Sp.nd ((kdC u).take j) : Int) else ((j - Sp.nd ((kdC u).take j) : Nat) : Int))) Q (k : Int) (j : Int) x2 y1 u := by
    intro y1 ey1
    unfold pv_0_placeOf_33
    intro _ _ v3 e3 _
    refine ⟨fun z3 => ?_, fun z3 => ?_⟩
    · rw [e3] at z3
      rw [if_neg z3] at b2
      unfold pv_0_placeOf_48
      refine ⟨fun z4 => ?_, fun z4 => ?_⟩
      · intro _ _
        refine ⟨rfl, rfl, j + 1, by omega, by omega, ?_⟩
        rw [if_neg z3, nt]
        by_cases c : u.2.1 14 (j : Int) = 1
        · rw [if_pos c]; omega
        · rw [if_neg c] at ey1; exact absurd ey1 z4
      · intro _ _
        refine ⟨rfl, rfl, j + 1, by omega, by omega, ?_⟩
        rw [if_neg z3, nt]
        by_cases c : u.2.1 14 (j : Int) = 1
        · rw [if_pos c] at ey1; exact absurd (show y1 ≠ 0 by omega) z4
        · rw [if_neg c]; omega
    · have z3 := Decidable.not_not.mp z3
      rw [e3] at z3
      rw [if_pos z3] at b2
      unfold pv_0_placeOf_48
      refine ⟨fun z4 => ?_, fun z4 => ?_⟩
      · intro _ _
        refine ⟨rfl, rfl, j + 1, by omega, by omega, ?_⟩
        rw [if_pos z3, nt]
        by_cases c : u.2.1 14 (j : Int) = 1
        · rw [if_pos c] at ey1; exact absurd ey1 z4
        · rw [if_neg c]; omega
      · intro _ _
        refine ⟨rfl, rfl, j + 1, by omega, by omega, ?_⟩
        rw [if_pos z3, nt]
        by_cases c : u.2.1 14 (j : Int) = 1
        · rw [if_pos c]; omega
        · rw [if_neg c] at ey1; exact absurd (show y1 ≠ 1 by omega) z4
  refine ⟨fun z3 => step 0 ?_, fun z3 => step 1 ?_⟩
  · rw [e2] at z3; rw [if_neg z3]
  · have z3 := Decidable.not_not.mp z3
    rw [e2] at z3; rw [if_pos z3]
theorem pc_rules [DecidableEq Ob] {a : Int} {Q : Int → iST → Prop} {u : iST} {E : Sp.Env} (hTo : TOc u E) (ha : a = 0 ∨ a = 1) (hq : Q (((E.thms.filter (fun t => if a = 1 then t.rule.any (fun r => r.on) else t.rule.isSome)).length : Nat) : Int) u) : pv_0_rules a Q u := by
  unfold pv_0_rules
  refine pv_0_rules_4_i (fun x1 x2 x3 y => x1 = a ∧ y = u ∧ ∃ j : Nat, x3 = (j : Int) ∧ (j : Int) ≤ u.1 1 ∧ x2 = ((((E.thms.take j).filter (fun t => if a = 1 then t.rule.any (fun r => r.on) else t.rule.isSome)).length : Nat) : Int)) ?_ ⟨rfl, rfl, 0, rfl, by have := hTo.1; omega, by rw [List.take_zero]; rfl⟩
  rintro x1 x2 x3 y ⟨b1, ey, j, b3, hj, b2⟩
  rw [b1, ey, b3]
  unfold pv_0_rules_4b
  intro v1 e1 _
  refine ⟨fun z => ?_, fun z => ?_⟩
  · rw [List.take_of_length_le (by have := hTo.1; omega)] at b2
    rw [b2]; exact hq
  have hj' : (j : Int) < u.1 1 := by omega
  obtain ⟨_, ⟨k, ek, ck⟩, _⟩ := hTo.2 j hj'
  have et : (E.thms.take (j + 1)) = E.thms.take j ++ [k] := by rw [List.take_add_one, ek]; rfl
  have hrk : k.rule = rulC u (j : Int) := ck.2.2
  have inc : ∀ b : Bool, (if a = 1 then k.rule.any (fun r => r.on) else k.rule.isSome) = b → ((((E.thms.take (j + 1)).filter (fun t => if a = 1 then t.rule.any (fun r => r.on) else t.rule.isSome)).length : Nat) : Int) = x2 + (if b = true then 1 else 0) := fun b hb => by
    rw [et, filter_snoc, hb, b2]
    cases b <;> rfl
  have yes : (if a = 1 then k.rule.any (fun r => r.on) else k.rule.isSome) = true → pv_0_rules_36 (fun x1 x2 x3 y => x1 = a ∧ y = u ∧ ∃ j : Nat, x3 = (j : Int) ∧ (j : Int) ≤ u.1 1 ∧ x2 = ((((E.thms.take j).filter (fun t => if a = 1 then t.rule.any (fun r => r.on) else t.rule.isSome)).length : Nat) : Int)) Q a (j : Int) x2 u := fun h => by
    unfold pv_0_rules_36
    intro _ _
    exact ⟨rfl, rfl, j + 1, by omega, by omega, by rw [inc true h]; rfl⟩
  have no : (if a = 1 then k.rule.any (fun r => r.on) else k.rule.isSome) = false → pv_0_rules_40 (fun x1 x2 x3 y => x1 = a ∧ y = u ∧ ∃ j : Nat, x3 = (j : Int) ∧ (j : Int) ≤ u.1 1 ∧ x2 = ((((E.thms.take j).filter (fun t => if a = 1 then t.rule.any (fun r => r.on) else t.rule.isSome)).length : Nat) : Int)) Q a (j : Int) x2 u := fun h => by
    unfold pv_0_rules_40
    intro _ _
    exact ⟨rfl, rfl, j + 1, by omega, by omega, by rw [inc false h]; rfl⟩
  intro _ _ v2 e2 _
  unfold rulC at hrk
  refine ⟨fun z2 => no ?_, fun z2 => ?_⟩
  · have hno : k.rule = none := by rw [hrk]; exact if_pos (e2.symm.trans z2)
    rw [hno]
    split <;> rfl
  rw [if_neg (e2 ▸ z2)] at hrk
  intro _ _ v5 e5 _
  refine ⟨fun z5 => yes ?_, fun z5 => ⟨fun z6 => no ?_, fun z6 => yes ?_⟩⟩
  · rw [hrk]
    split
    · show decide (u.2.1 12 (j : Int) ≠ 0) = true
      exact decide_eq_true (e5 ▸ z5)
    · rfl
  · rw [if_pos (by omega), hrk]
    show decide (u.2.1 12 (j : Int) ≠ 0) = false
    exact decide_eq_false (fun q => z5 (e5 ▸ q))
  · rw [if_neg (fun q => z6 (by omega)), hrk]
    rfl
