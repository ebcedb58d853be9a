-- deps: 79986
/-! the class: check -/
theorem HC.keepP [DecidableEq Ob] {n r : Nat → Bool} {u v : iST} {H : Sp.Hs} {m : List Ob} (h : HC u H m) (g : CG n r u v) (hP : PmC v) (hn : ∀ k, (k ≤ 3 ∨ k = 27 ∨ k = 37) → v.1 k = u.1 k) (hr : ∀ k, (k ≤ 15 ∨ k = 50) → v.2.1 k = u.2.1 k) : HC v H m := by
  obtain ⟨hT, hD, hTo, hF, hO, ⟨k0, hk⟩, hM, ⟨a1, a2⟩, _⟩ := h
  refine ⟨g.1, hD.mono hT g (hn 0 (by omega)) (fun k hk => hr k (by omega)), hTo.mono hT g (hn 1 (by omega)) (fun k _ hk => hr k (by omega)) (hr 50 (by omega)), fun j hj => ?_, hO, ⟨by rw [hn 2 (by omega)]; exact k0, ?_⟩, ?_, ⟨by rw [hn 37 (by omega)]; exact a1, by rw [hn 27 (by omega)]; exact a2⟩, hP⟩
  · rw [hn 1 (by omega)] at hj
    rw [hr 6 (by omega)]
    exact ((hF j hj).up hT g).1
  · rw [kdC_same (hn 2 (by omega)) (hr 14 (by omega))]; exact hk
  · have := g.le
    have := hM.1.2.1
    exact hM.same (by omega) (hn 2 (by omega)) (hn 3 (by omega)) (fun k _ hk => hr k (by omega))
theorem HC.F [DecidableEq Ob] {u v : iST} {H : Sp.Hs} {m : List Ob} (h : HC u H m) (g : CG f8Fn f8Fr u v) (hP : PmC v) : HC v H m := h.keepP g hP (fun k hk => g.2.2.1 k (by unfold f8Fn f8Kn; simp only [Bool.or_eq_false_iff, decide_eq_false_iff_not]; omega)) (fun k hk => g.2.2.2 k (by unfold f8Fr f8Xr; simp only [Bool.or_eq_false_iff, decide_eq_false_iff_not]; omega))
theorem wfE_of [DecidableEq Ob] {H : Sp.Hs} {m : List Ob} (h : Sp.HOk H) : WfE (H.env m) := fun D hD => by
  obtain ⟨d1, ⟨_, d2⟩, ⟨d3, d4, _⟩, _⟩ := (HOk.wf h).1 D hD
  refine ⟨d1, fun x hx => ?_, d3, d4⟩
  unfold Sp.areVars at d2
  rw [Bool.and_eq_true] at d2
  exact List.all_eq_true.mp d2.1 x hx
theorem nwd_item3 [DecidableEq Ob] {o : Ob} (hl : Ob.len o = 4) (hq : Ob.lft o ≠ Ob.quote) (hw : nwd false o ≤ 1000) : nwd false (Ob.item o 3) ≤ 1000 := by
  cases o with
  | var x => rw [Ob.len_var] at hl; split at hl <;> omega
  | op a b =>
    have hq : a ≠ Ob.quote := hq
    rw [nwd_call hq] at hw
    have := nwd_pos false a
    have e : Ob.item (.op a b) 3 = Ob.item b 2 := rfl
    rw [e]
    have lb : Ob.len b = 3 := by
      have : (if Ob.len b = -1 then (-1 : Int) else Ob.len b + 1) = 4 := hl
      split at this <;> omega
    have ll := toList_len' (o := b) (by omega)
    have hm : Ob.item b 2 ∈ Ob.toList b := by
      have h3 : 2 < (Ob.toList b).length := by omega
      rw [Ob.item_get, List.getD_eq_getElem?_getD, List.getElem?_eq_getElem h3]
      exact List.getElem_mem h3
    have := nwd_in b _ hm
    omega
theorem rn_check [DecidableEq Ob] {γ : Int} {a : Int} {fuel : Nat} {Q : Int → iST → Prop} {v : iST} {H : Sp.Hs} (h : HC v H []) (va : VN v a) (h43 : v.1 43 = (fuel : Int)) (hfu : fuel ≤ 1000) (hA : At5 H (oc v a) v) (hna : (H.env []).thmOf (Ob.item (oc v a) 1) = none ∧ H.2.1.length < 60) (hw : nwd false (oc v a) ≤ 1000) (h13 : v.1 13 = 0) (h50 : v.1 50 = 0) (γ0 : 0 ≤ γ) (fit : Fit (v.1 29 + γ + (7 * npr (Ob.item (oc v a) 3) + 4001)) (Sp.pf (H.env []) 40 (Ob.item (oc v a) 3) (fuel, 0))) (hq : ∀ ans w r, Sp.Ran H fuel (oc v a) r → RcO γ v w r → Q ans w) : pv_11_run_62 Q a 0 v := by
  obtain ⟨ho, hl, hN, n45, e45⟩ := hA
  have hO2 : Sp.HOk (Sp.addThm H (Ob.item (oc v a) 1) (oc v (v.1 45)) 3) := addThm_ok h.2.2.2.2.1.1 (by decide) hN.2.2 e45 hna.1
  have ran : ∀ r, r = Sp.ranM H fuel (fun l => if l.all (fun x => decide (x = oc v (v.1 45))) then Sp.addThm H (Ob.item (oc v a) 1) (oc v (v.1 45)) 3 else H) (Sp.pf (H.env []) 40 (Ob.item (oc v a) 3)) → Sp.Ran H fuel (oc v a) r := fun r hr => by
    refine Ran_check ho ?_
    rw [if_pos ⟨hl, hN.2.2⟩, e45]
    show (if _ then _ else _)
    rw [if_neg (by
      rintro (q | q)
      · rw [hna.1] at q; cases q
      · have := hna.2; omega)]
    exact hr
  refine rn_62 h h43 (fun y hy bg => ?_)
  obtain ⟨yn, y2, y30, y31, y32⟩ := bg
  have oy : ∀ x, oc y x = oc v x := fun x => oc_same (by rw [y2]) x
  have y29 : y.1 29 = v.1 29 := yn 29 (by omega)
  have y44 : y.1 44 = v.1 44 := yn 44 (by omega)
  refine rn_prep (c := 22) hy ⟨va.1, by rw [y29]; exact va.2⟩ (Or.inr (by rw [y44]; exact ⟨hN.1.1, by rw [y29]; exact hN.1.2⟩)) (by decide) (by decide) rfl (by rw [oy]; exact ho) (fun z hz zn z25 z2 z26 => ⟨(fun q => by cases q), (fun q => by cases q), (fun q => by omega), (fun q => by cases q), fun _ => ?_⟩)
  refine rn_none hz (by rw [zn 13 (by decide) (by decide), yn 13 (by omega)]; exact h13) (by rw [zn 32 (by decide) (by decide)]; exact y32) (fun t ht tn t15 t2 => ?_)
  have t22 : t.2 = v.2 := t2.trans (z2.trans y2)
  have ot : ∀ x, oc t x = oc v x := fun x => oc_same (by rw [t22]) x
  have tz : ∀ k, k ≠ 15 → k ≠ 16 → k ≠ 25 → k ≠ 26 → t.1 k = y.1 k := fun k a b c d => by rw [tn k a b, zn k c d]
  have t29 : t.1 29 = v.1 29 := by rw [tz 29 (by decide) (by decide) (by decide) (by decide)]; exact y29
  have tv : ∀ k, ¬ (15 ≤ k ∧ k ≤ 32) → t.1 k = v.1 k := fun k hk => by rw [tz k (by omega) (by omega) (by omega) (by omega), yn k (by omega)]
  have vt : ∀ x, VN v x → VN t x := fun x q => ⟨q.1, by rw [t29]; exact q.2⟩
  have t31 : t.1 31 = 0 := by rw [tz 31 (by decide) (by decide) (by decide) (by decide)]; exact y31
  have t30 : t.1 30 = (fuel : Int) := by rw [tz 30 (by decide) (by decide) (by decide) (by decide)]; exact y30
  have t32 : t.1 32 = 0 := by rw [tz 32 (by decide) (by decide) (by decide) (by decide)]; exact y32
  have hst : StS t (fuel, 0) := ⟨by omega, by unfold StC; rw [t31, t30]; show (0 : Int) + (fuel : Int) = (fuel : Int); omega⟩
  unfold pv_11_run_111
  refine pc_left ht.1 (vt a va) (fun f vf ef => ?_)
  have kc := katC ht.1 22 (o := Ob.check) (by decide) (by decide) rfl vf.1 vf.2
  rw [ef, ot] at kc
  have f22 : f = 22 := kc.mpr ho
  refine ⟨fun c => absurd f22 c, fun _ => ?_⟩
  refine pc_item ht.1 (vt a va) (by decide) (fun r vr er => ?_)
  have er : oc t r = Ob.item (oc v a) 3 := by rw [er, ot]; rfl
  have hP : PdK_d (v.1 29) 0 f8Fn f8Fr t t (Sp.pf (H.env []) 40 (Ob.item (oc v a) 3) (fuel, 0)) (Sp.bd (Sp.pf (H.env []) 40 (oc t r)) Sp.ret) := by
    refine ⟨CG.rf ht.1, Or.inl ⟨(fuel, 0), ⟨t32, hst, ?_⟩, ?_⟩⟩
    · rw [t29]
      show v.1 29 ≤ v.1 29 + ((0 : Nat) : Int)
      omega
    · rw [bd_rt, er]
  have hmk : v.1 3 ≤ v.1 29 := h.2.2.2.2.2.2.1.1.2.1
  -- from the end of the PROOF on
  have fin : ∀ w, CG f8Fn f8Fr t w → PmC w → (∀ x, HC x H [] → (∀ k, k ≠ 48 → k ≠ 49 → x.1 k = w.1 k) → x.1 48 = w.1 31 → x.2 = w.2 → (∀ j, VN v j → VN x j ∧ oc x j = oc v j) → x.1 15 = 0 → x.1 13 = 0 → x.1 50 = 0 → x.1 44 = v.1 44 → x.1 45 = v.1 45 → x.1 3 = v.1 3 → v.1 29 ≤ x.1 29 → (x.1 42 = v.1 42 ∧ x.1 43 = v.1 43 ∧ x.1 3 ≤ v.1 29) → x.2.1 45 = v.2.1 45 → pv_11_conclude a (v.1 29) Q x) → pv_11_run_140 Q a (v.1 29) w := fun w g hPm hx => by
    have hw' := ht.F g hPm
    refine rn_140 hw' (fun x hx' xn x48 x2 => ?_)
    have wt : ∀ k, ¬ (10 ≤ k ∧ k ≤ 12) → ¬ (29 ≤ k ∧ k ≤ 41) → w.1 k = t.1 k := fun k a b => g.2.2.1 k (by unfold f8Fn f8Kn; simp only [Bool.or_eq_false_iff, decide_eq_false_iff_not]; omega)
    have xt : ∀ k, ¬ (10 ≤ k ∧ k ≤ 12) → ¬ (29 ≤ k ∧ k ≤ 41) → k ≠ 48 → k ≠ 49 → x.1 k = t.1 k := fun k a b c d => by rw [xn k c d, wt k a b]
    have le := g.le
    have x29 : x.1 29 = w.1 29 := xn 29 (by decide) (by decide)
    refine hx x hx' xn x48 x2 (fun j q => ⟨⟨q.1, by have := q.2; omega⟩, ?_⟩) ?_ ?_ ?_ ?_ ?_ ?_ (by omega) ⟨?_, ?_, ?_⟩ ?_
    · rw [oc_same (u := w) (v := x) (by rw [x2]), g.oc ht.1 (vt j q).1 (vt j q).2, ot]
    · rw [xt 15 (by omega) (by omega) (by decide) (by decide)]; exact t15
    · rw [xt 13 (by omega) (by omega) (by decide) (by decide), tv 13 (by omega)]; exact h13
    · rw [xt 50 (by omega) (by omega) (by decide) (by decide), tv 50 (by omega)]; exact h50
    · rw [xt 44 (by omega) (by omega) (by decide) (by decide), tv 44 (by omega)]
    · rw [xt 45 (by omega) (by omega) (by decide) (by decide), tv 45 (by omega)]
    · rw [xt 3 (by omega) (by omega) (by decide) (by decide), tv 3 (by omega)]
    · rw [xt 42 (by omega) (by omega) (by decide) (by decide), tv 42 (by omega)]
    · rw [xt 43 (by omega) (by omega) (by decide) (by decide), tv 43 (by omega)]
    · rw [xt 3 (by omega) (by omega) (by decide) (by decide), tv 3 (by omega)]; exact hmk
    · rw [x2, g.2.2.2 45 (by decide), t22]
  have b50 : ∀ w' x : iST, x.1 13 = 0 → (w'.1 50 = 0 ↔ x.1 13 ≤ 0) → bq (w'.1 50) false := fun w' x e q => by
    have : w'.1 50 = 0 := q.mpr (by omega)
    rw [this]
    exact bq0 rfl
  refine pc_goThrough hP (by rw [er]; exact fit.le (by omega)) (fun l s => Nat.le_refl _) ⟨ht.rde t32, ht.2.2.1, ht.2.2.2.1⟩ (wfE_of ht.2.2.2.2.1.1) (HWf.dwf (HOk.wf ht.2.2.2.2.1.1)) ht.2.2.2.2.2.2.2.2 (by rw [t30]; omega) vr (by rw [er]; exact nwd_item3 hl (by rw [ho]; exact Ob.sym_ne (by decide)) hw) (fun w g w32 w12 hCl Pw hPm => ?_) (fun w hPm hb g he => ?_)
  · obtain ⟨s, hls, eR⟩ := Pw.live w32
    have eR : Sp.pf (H.env []) 40 (Ob.item (oc v a) 3) (fuel, 0) = .ok (clC w (w.2.1 57 0)) s := eR
    have w30 : w.1 30 = (fuel : Int) := by rw [g.2.2.1 30 (by decide)]; exact t30
    have hsc : w.1 31 + (s.1 : Int) = w.1 30 := hls.2.1.2
    refine fin w g hPm (fun x hx xn x48 x2 xv x15 x13 x50 x44 x45 x3 x29 x4 xr => ?_)
    have x12 : x.1 12 = w.1 12 := xn 12 (by decide) (by decide)
    have gx : CG (fun k => decide (48 ≤ k ∧ k ≤ 49)) f80 w x := ⟨hx.1, ⟨by rw [xn 29 (by decide) (by decide)]; exact Int.le_refl _, fun k _ _ => by rw [x2]⟩, ⟨fun k hk => xn k (fun q => of_decide_eq_false hk (by omega)) (fun q => of_decide_eq_false hk (by omega)), fun k _ => by rw [x2]⟩⟩
    obtain ⟨q1, q2⟩ := hCl.up g.1 gx (fun k _ _ => by rw [x2])
    have x57 : x.2.1 57 0 = w.2.1 57 0 := by rw [x2]
    have f1 : w.1 29 + γ + 60 ≤ 160000 := by
      have := hls.2.2
      have f2 : v.1 29 + γ + (7 * npr (Ob.item (oc v a) 3) + 4001) + (s.2 : Int) ≤ 160000 := by
        have q := fit
        unfold Fit at q
        rw [eR] at q
        exact q
      rw [er] at this
      omega
    have n45x : NdC x (H.env []) (x.1 45) := by rw [x45]; exact ⟨(xv _ n45.1).1, by rw [(xv _ n45.1).2]; exact n45.2.1, by rw [(xv _ n45.1).2]; exact n45.2.2⟩
    have all_eq : (clC x (x.2.1 57 0)).all (fun y => decide (y = oc x (x.1 45))) = (clC w (w.2.1 57 0)).all (fun y => decide (y = oc v (v.1 45))) := by rw [x57, q2, x45, (xv _ n45.1).2]
    refine cc_check (E := H.env []) hx (xv a va).1 (by rw [(xv a va).2]; exact ho) (by rw [xn 32 (by decide) (by decide)]; exact w32) x15 (fun _ => by rw [x57]; exact q1) (fun _ => by rw [xn 29 (by decide) (by decide)]; omega) n45x (fun hb w' hw' w50' wn wr w9 => hq 7 w' (H, (fuel : Int) - (s.1 : Int), 0, false) (ran _ ?_) ⟨⟨[], hw'⟩, ?_, ?_, b50 w' x x13 w50', ⟨?_, ?_, ?_, by have l9 := w9.2; rw [xn 29 (by decide) (by decide)] at l9; omega⟩, ?_, fun q => by cases q⟩) (fun _ hall => ⟨⟨?_, hna.2, by rw [x3]; exact hmk, x29, by rw [x44]; exact (xv _ hN.1).1, by rw [x44]; exact hN.1.2, by rw [x45]; exact n45.1.2⟩, fun w' m' hw' w50' wn' wr => hq 0 w' (Sp.addThm H (Ob.item (oc v a) 1) (oc v (v.1 45)) 3, (fuel : Int) - (s.1 : Int), 0, false) (ran _ ?_) ⟨⟨m', ?_⟩, ?_, ?_, b50 w' x x13 w50', ⟨?_, ?_, ?_, by rw [wn'.2 29 (by decide) (by decide) (by decide), xn 29 (by decide) (by decide)]; omega⟩, ?_, fun q => by cases q⟩⟩)
    · unfold Sp.ranM
      rw [eR]
      rcases hb with q | q
      · exact absurd (x12.trans w12) q
      · rw [all_eq] at q
        show _ = (if _ then _ else _, _, _, _)
        rw [q]
        rfl
    · show w'.1 48 = (fuel : Int) - (s.1 : Int)
      rw [wn 48 (by decide) (by decide), x48]; omega
    · show w'.1 15 = 0
      rw [wn 15 (by decide) (by decide)]; exact x15
    · rw [wn 42 (by decide) (by decide)]; exact x4.1
    · rw [wn 43 (by decide) (by decide)]; exact x4.2.1
    · rw [wn 3 (by decide) (by decide)]; exact x4.2.2
    · rw [wr 45 (by decide) (by decide)]; exact xr
    · rw [x44, x45, (xv _ hN.1).2, (xv _ n45.1).2, hN.2.1]; exact hO2
    · unfold Sp.ranM
      rw [eR]
      rw [all_eq] at hall
      show _ = (if _ then _ else _, _, _, _)
      rw [hall]
      rfl
    · rw [x44, x45, (xv _ hN.1).2, (xv _ n45.1).2, hN.2.1] at hw'
      exact hw'
    · show w'.1 48 = (fuel : Int) - (s.1 : Int)
      rw [wn'.2 48 (by decide) (by decide) (by decide), x48]; omega
    · show w'.1 15 = 0
      rw [wn'.2 15 (by decide) (by decide) (by decide)]; exact x15
    · rw [wn'.2 42 (by decide) (by decide) (by decide)]; exact x4.1
    · rw [wn'.2 43 (by decide) (by decide) (by decide)]; exact x4.2.1
    · rw [wn'.1]; exact Int.le_refl _
    · rw [wr 45 (by decide)]; exact xr
  · obtain ⟨s, hs, eR⟩ := he
    have w30 : w.1 30 = (fuel : Int) := by rw [g.2.2.1 30 (by decide)]; exact t30
    have hsc : w.1 31 + (s.1 : Int) = w.1 30 := hs.1.2
    have f9 := fit
    unfold Fit at f9
    rw [eR] at f9
    have f9 : v.1 29 + γ + (7 * npr (Ob.item (oc v a) 3) + 4001) + (s.2 : Int) ≤ 160000 := f9
    have l9 := hs.2
    rw [er] at l9
    have rr : Sp.Ran H fuel (oc v a) (H, (fuel : Int) - (s.1 : Int), 0, false) := ran _ (by unfold Sp.ranM; rw [eR])
    refine fin w g hPm (fun x hx xn x48 x2 xv x15 x13 x50 x44 x45 x3 x29 x4 xr => ?_)
    by_cases w32 : w.1 32 = 0
    · have w12 : w.1 12 ≠ -1 := by
        rcases hb with q | q
        · exact absurd w32 q
        · exact q
      have x12 : x.1 12 ≠ -1 := by rw [xn 12 (by decide) (by decide)]; exact w12
      have n45x : NdC x (H.env []) (x.1 45) := by rw [x45]; exact ⟨(xv _ n45.1).1, by rw [(xv _ n45.1).2]; exact n45.2.1, by rw [(xv _ n45.1).2]; exact n45.2.2⟩
      refine cc_check (E := H.env []) hx (xv a va).1 (by rw [(xv a va).2]; exact ho) (by rw [xn 32 (by decide) (by decide)]; exact w32) x15 (fun q => absurd q x12) (fun q => absurd q x12) n45x (fun _ w' hw' w50' wn wr w9 => hq 7 w' _ rr ⟨⟨[], hw'⟩, ?_, ?_, b50 w' x x13 w50', ⟨?_, ?_, ?_, by rw [w9.1 x12, xn 29 (by decide) (by decide)]; omega⟩, ?_, fun q => by cases q⟩) (fun q => absurd q x12)
      · show w'.1 48 = (fuel : Int) - (s.1 : Int)
        rw [wn 48 (by decide) (by decide), x48]; omega
      · show w'.1 15 = 0
        rw [wn 15 (by decide) (by decide)]; exact x15
      · rw [wn 42 (by decide) (by decide)]; exact x4.1
      · rw [wn 43 (by decide) (by decide)]; exact x4.2.1
      · rw [wn 3 (by decide) (by decide)]; exact x4.2.2
      · rw [wr 45 (by decide) (by decide)]; exact xr
    · refine cc_fail hx (by rw [xn 32 (by decide) (by decide)]; exact w32) (fun w' hw' w15 wn wr => hq 4 w' _ rr ⟨⟨[], hw'⟩, ?_, w15, ?_, ⟨?_, ?_, ?_, by rw [wn 29 (by decide) (by decide), xn 29 (by decide) (by decide)]; omega⟩, ?_, fun q => by cases q⟩)
      · show w'.1 48 = (fuel : Int) - (s.1 : Int)
        rw [wn 48 (by decide) (by decide), x48]; omega
      · rw [wn 50 (by decide) (by decide), x50]; exact bq0 rfl
      · rw [wn 42 (by decide) (by decide)]; exact x4.1
      · rw [wn 43 (by decide) (by decide)]; exact x4.2.1
      · rw [wn 3 (by decide) (by decide)]; exact x4.2.2
      · rw [wr 45 (by decide)]; exact xr
