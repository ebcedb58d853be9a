-- deps: 763
/-! the class: the clauses of a theorem -/
theorem ind_cons [DecidableEq Ob] {α : Type} (D : Sp.Dfn) (vs : List Ob) (F : Ob) (us : List Ob) (p : List (Ob × Bool) × Ob) (L : List (List (Ob × Bool) × Ob)) (K : List Sp.Cla → Sp.M α) : Sp.bd (Sp.indAll D vs F us (p :: L)) K = Sp.bd (Sp.rulersGo (Ob.lkD (D.params.zip vs)) p.1 us) (fun l => Sp.bd (Sp.hypsGo D vs F (Sp.callsIn p.2 D.name) l) (fun l => Sp.bd (Sp.bounded (Sp.putL l F)) (fun l => Sp.bd (Sp.indAll D vs F us L) (fun cl => K ((l, 0) :: cl))))) := by
  show Sp.bd (Sp.bd (Sp.bd (Sp.rulersGo (Ob.lkD (D.params.zip vs)) p.1 us) (fun l => Sp.bd (Sp.hypsGo D vs F (Sp.callsIn p.2 D.name) l) (fun l => Sp.bounded (Sp.putL l F)))) (fun l => Sp.bd (Sp.indAll D vs F us L) (fun cl => Sp.ret ((l, 0) :: cl)))) K = _
  simp only [bd_assoc]
  rfl
theorem ind_mono [DecidableEq Ob] {D : Sp.Dfn} {vs : List Ob} {F : Ob} {us : List Ob} : ∀ L : List (List (Ob × Bool) × Ob), Mono (Sp.indAll D vs F us L)
  | [] => Mono.ret
  | p :: L => Mono.bd (Mono.bd (rulers_mono _ _) (fun _ => Mono.bd (hyps_mono _ _) (fun _ => Mono.bounded))) (fun _ => Mono.bd (ind_mono L) (fun _ => Mono.ret))
theorem ind_die [DecidableEq Ob] {α : Type} {D : Sp.Dfn} {vs : List Ob} {F : Ob} {us : List Ob} {p : List (Ob × Bool) × Ob} {L : List (List (Ob × Bool) × Ob)} {K : List Sp.Cla → Sp.M α} (h : Sp.bnd us = false) : Die (Sp.bd (Sp.indAll D vs F us (p :: L)) K) := by
  rw [ind_cons]
  exact rulers_die (fun l hl => hyps_die (fun l hl => Die.left (die_bounded (bndF hl)) _) _ l hl) _ _ h
theorem call_args [DecidableEq Ob] {E : Sp.Env} {o f c : Ob} {k : Nat} (hw : Ob.wt (Sp.arOf E) o) (hz : o.sz ≤ 120) (hf : f ≠ Ob.quote) (ha : Sp.arOf E f = (k : Int)) (hc : c ∈ Sp.callsIn o f) : ∃ l, c = .pr f (Ob.ofList l) ∧ l.length = k ∧ ∀ a, a ∈ l → Ob.wt (Sp.arOf E) a ∧ a.sz ≤ 120 := by
  obtain ⟨w, z, hcf, _, hs⟩ := call_nd hw hz hf hc
  obtain ⟨b, eb⟩ := Ob.isCallOf_iff.mp hcf
  have hcall : c.isCall = true := by rw [eb]; exact decide_eq_true hf
  obtain ⟨g, l, e, hq, _, hl, hx⟩ := Ob.wt_call w hcall
  have eg : g = f := by
    rw [e] at eb
    exact (Lean.Data.AC.Expr.op.inj eb).1
  rw [eg] at e hl
  rw [e] at hs
  have hs : Ob.szM true (Ob.ofList l) ≤ 119 := hs
  refine ⟨l, e, by omega, fun a h => ⟨hx a h, ?_⟩⟩
  have := szM_in h
  omega
theorem arOf_def [DecidableEq Ob] {E : Sp.Env} {f : Ob} {D : Sp.Dfn} (hb : f.isBase = false) (hd : E.dfn f = some D) : Sp.arOf E f = (D.params.length : Int) := by
  have n1 : f ≠ Ob.ifS := fun e => by rw [e, isBase_ifS] at hb; cases hb
  have n2 : ¬ (f = Ob.equal ∨ f = Ob.cons ∨ f = Ob.implies ∨ f = Ob.plus ∨ f = Ob.minus ∨ f = Ob.less) := by
    rintro (e | e | e | e | e | e) <;> rw [e] at hb
    · rw [isBase_equal] at hb; cases hb
    · rw [isBase_cons] at hb; cases hb
    · rw [isBase_implies] at hb; cases hb
    · rw [isBase_plus] at hb; cases hb
    · rw [isBase_minus] at hb; cases hb
    · rw [isBase_less] at hb; cases hb
  unfold Sp.arOf
  rw [if_neg n1, if_neg n2, if_neg (by rw [hb]; decide), hd]
/-- the induction asked for -/
def IndC [DecidableEq Ob] (v : iST) (E : Sp.Env) (ind : Option (Sp.Dfn × List Ob)) : Prop := (v.1 36 = -1 ∧ ind = none) ∨ ∃ D vs, ind = some (D, vs) ∧ VN v (v.1 36) ∧ oc v (v.1 36) = .pr D.name (Ob.ofList vs) ∧ E.dfn D.name = some D ∧ vs.length = D.params.length ∧ ∀ x, x ∈ vs → x.isVar = true
theorem pc_addTheoremClauses [DecidableEq Ob] {δ : Nat} {α : Type} {F hs B : Int} {n r : Nat → Bool} {Q : iST → Prop} {u v : iST} {E : Sp.Env} {R : EStateM.Result Unit Sp.Wk α} {K : List Sp.Cla → Sp.M α} {ind : Option (Sp.Dfn × List Ob)} (hP : PdK_d B δ n r u v R (Sp.bd (Sp.thmCl E (oc v F) ind (Sp.usesOf E (Ob.toList (oc v hs)))) K)) (hn : ∀ k, n k = false → f8Xn k = false) (hr : ∀ k, r k = false → f8Xr k = false) (fit : Fit (B + cpH (Ob.toList (oc v hs))) R) (hK : ∀ a, Mono (K a)) (hs0 : ∀ f : Ob, f.isSym = false → Sp.arOf E f = -1) (hD : DOc v E) (hTo : TOc v E) (hDw : Sp.DWf E) (hDz : ∀ D, D ∈ E.defs → D.body.sz ≤ 120) (hFm : ∀ j : Nat, (j : Int) < v.1 1 → NdC v E (v.2.1 6 (j : Int))) (h37 : v.1 37 = -1) (vh : VN v hs) (hh : ∀ h, h ∈ Ob.toList (oc v hs) → UsH E h) (hF : NdC v E F) (hI : IndC v E ind) (h13 : v.1 13 = 0) (h32 : v.1 32 = 0)
    (hq : ∀ w, CG f8Xn f8Xr v w → (w.1 32 = 0 → ∃ cl s, GvB w E cl ∧ cl.length ≤ 120 ∧ Lv (B + cpH (Ob.toList (oc v hs))) w s ∧ R = K cl s) → (w.1 32 ≠ 0 → ∃ s, Dd_d (B + cpH (Ob.toList (oc v hs))) 3000 w s ∧ R = .error () s) → Q w) : pv_8_addTheoremClauses F hs Q v := by
  have hT := hP.1.1
  have hP := hP.zero (δ' := 0) h32
  have h6 := arOf6 hD
  have har : Sp.arOf E Ob.ifS = 3 := arOf_ifS E
  have nY : ∀ k, n k = false → f8Yn k = false := fun k h => f8Y_X k (hn k h)
  have rY : ∀ k, r k = false → f8Yr k = false := fun k h => f8Yr_X k (hr k h)
  have nB : ∀ k, n k = false → f8B k = false := fun k h => f8B_Y k (nY k h)
  have rC : ∀ k, r k = false → f8C k = false := fun k h => f8C_X k (hr k h)
  generalize hB' : B + cpH (Ob.toList (oc v hs)) = B' at fit hq
  unfold pv_8_addTheoremClauses
  refine pc_clear1 (E := E) hT (fun v1 k1 n1 W1 l1 r1 => ?_)
  have g1 : CG f8Yn f8Yr v v1 := k1.1.mono (fun _ _ => rfl) f8C_Y
  have eh : oc v1 hs = oc v hs := oc_same k1.2.1 hs
  have eF1 : oc v1 F = oc v F := oc_same k1.2.1 F
  have P1 : PdK_d B 0 n r u v1 R (Sp.bd (Sp.usesGo (Sp.usesOf E (Ob.toList (oc v hs))) [] []) (fun us => Sp.bd (match ind with | none => Sp.bd (Sp.bounded (Sp.putL us (oc v F))) (fun l => Sp.ret [(l, 0)]) | some (D, vs) => Sp.indAll D vs (oc v F) us (Sp.paths D.body)) K)) := by
    have := hP.on k1.1 (fun _ _ => rfl) rC (by rw [n1]) (by rw [n1]) (by rw [n1]) (by rw [n1])
    unfold Sp.thmCl at this
    rw [bd_assoc] at this
    exact this
  have P1 : PdK_d B 0 n r u v1 R (Sp.bd (Sp.usesGo (Sp.usesOf E (Ob.toList (oc v1 hs))) (clC v1 150) []) (fun us => Sp.bd (match ind with | none => Sp.bd (Sp.bounded (Sp.putL us (oc v F))) (fun l => Sp.ret [(l, 0)]) | some (D, vs) => Sp.indAll D vs (oc v F) us (Sp.paths D.body)) K)) := by rw [l1, eh]; exact P1
  have DwP : ∀ D, D ∈ E.defs → Sp.paths D.body ≠ [] := fun D _ => paths_ne D.body
  have dfm : ∀ f D, E.dfn f = some D → D ∈ E.defs := fun f D h => (dfn_mem h).1
  refine pc_addUses (B := B) P1 nY rY (by rw [eh, hB']; exact fit) (fun us => Mono.bd (by
      cases ind with
      | none => exact Mono.bd Mono.bounded (fun _ => Mono.ret)
      | some x => exact ind_mono _) hK) (fun l hl => ?_) h6 hs0 (hD.mono hT g1 (by rw [n1]) (fun k hk => g1.2.2.2 k (by unfold f8Yr; simp only [Bool.or_eq_false_iff, decide_eq_false_iff_not]; omega))) (hTo.mono hT g1 (by rw [n1]) (fun k h1 h2 => g1.2.2.2 k (by unfold f8Yr; simp only [Bool.or_eq_false_iff, decide_eq_false_iff_not]; omega)) (g1.2.2.2 50 (by decide))) (fun j hj => by
      rw [n1] at hj
      rw [g1.2.2.2 6 (by decide)]
      exact ((hFm j hj).up hT g1).1) (by rw [n1]; exact h37) (vh.up g1) (by rw [eh]; exact hh) (fun _ => ⟨W1, by rw [l1]; rfl⟩) (fun v2 g2 v2d hC2 P2 => ?_)
  · cases ind with
    | none =>
      show Die (Sp.bd (Sp.bd (Sp.bounded (Sp.putL l (oc v F))) (fun l => Sp.ret [(l, 0)])) K)
      exact Die.left (Die.left (die_bounded (bndF hl)) _) _
    | some x =>
      obtain ⟨D, vs⟩ := x
      show Die (Sp.bd (Sp.indAll D vs (oc v F) l (Sp.paths D.body)) K)
      have hne : Sp.paths D.body ≠ [] := by
        rcases hI with ⟨_, q⟩ | ⟨D', vs', q, _, _, hdf, _⟩
        · cases q
        · have := Option.some.inj q
          rw [(Prod.mk.inj this).1]
          exact DwP D' (dfm _ _ hdf)
      cases hp : Sp.paths D.body with
      | nil => exact absurd hp hne
      | cons p L => exact ind_die hl
  rw [eh, hB'] at P2
  generalize hus : clC v2 150 = us at P2
  have gv2 : CG f8Yn f8Yr v v2 := g1.tr g2
  have gX2 : CG f8Xn f8Xr v v2 := gv2.mono f8Y_X f8Yr_X
  have v2n13 : v2.1 13 = 0 := by rw [g2.2.2.1 13 (by decide), n1]; exact h13
  have v36 : v2.1 36 = v.1 36 := gv2.2.2.1 36 (by decide)
  obtain ⟨nF2, eF2⟩ := hF.up hT gv2
  intro v3 e3 _
  rw [v36] at e3
  rcases hI with ⟨h36, hnone⟩ | ⟨D, vs, hsome, vi, ei, hdf, hvl, hvv⟩
  · refine ⟨fun q => absurd (e3.trans h36) q, fun _ => ?_⟩
    rw [hnone] at P2
    have P2 : PdK_d B' 600 n r u v2 R (Sp.bd (Sp.bd (Sp.bounded (Sp.putL us (oc v F))) (fun l => Sp.ret [(l, 0)])) K) := P2
    rw [bd_assoc] at P2
    unfold pv_8_addTheoremClauses_48
    refine ⟨fun q => absurd rfl q, fun _ => ?_⟩
    refine pc_newClause (E := E) g2.1 v2n13 (Int.le_refl _) (fun w1 _ w1n w13 gw1 o1 Wn ln w48 => ?_) (fun w1 c120 _ _ => by omega)
    have Pn := P2.on gw1 (fun k h => f813_X k (hn k h)) rC (w1n 29 (by decide)) (w1n 30 (by decide)) (w1n 31 (by decide)) (w1n 32 (by decide))
    have gX3 : CG f8Xn f8Xr v w1 := gX2.tr (gw1.mono f813_X f8C_X)
    -- behind the copy
    have fin : ∀ w2, CG f80 f8C w1 w2 → (w1.1 32 = 0 → ClW w2 E 0 ∧ clC w2 0 = us ∧ Sp.bnd us = true ∧ w2.2.1 48 0 = 0) → pv_10_join 0 F (fun u => Q u) w2 := by
      intro w2 gw2 hal
      have e32 : w2.1 32 = w1.1 32 := gw2.2.2.1 32 rfl
      have P3 := Pn.on gw2 (fun _ _ => rfl) rC (gw2.2.2.1 29 rfl) (gw2.2.2.1 30 rfl) (gw2.2.2.1 31 rfl) (gw2.2.2.1 32 rfl)
      have gX4 : CG f8Xn f8Xr v w2 := gX3.tr (gw2.mono (fun _ _ => rfl) f8C_X)
      obtain ⟨nF4, eF4⟩ := hF.up hT gX4
      have P4 : PdK_d B' 600 n r u w2 R (Sp.bd (Sp.bounded (Sp.putL (clC w2 0) (oc w2 F))) (fun l => K [(l, 0)])) := by
        by_cases q : w2.1 32 = 0
        · rw [(hal (by rw [← e32]; exact q)).2.1, eF4]
          exact P3
        · exact P3.any q _
      refine pc_joinP (E := E) (K := fun l' => Sp.bd (Sp.bounded l') (fun l => K [(l, 0)])) P4 (fun j h => f8T_Y j (nY j h)) rC (fun q => ?_) nF4.d (fun l hb => Die.left (die_bounded hb) _) (fun w3 gw3 _ w3d hal3 P5 => ?_)
      · obtain ⟨a1, a2, a3, _⟩ := hal (by rw [← e32]; exact q)
        exact ⟨a1, by rw [a2]; exact a3⟩
      refine hq w3 (gX4.tr (gw3.mono (fun k h => f8T_Y k (f8Y_X k h)) f8C_X)) (fun q => ?_) (fun q => P5.dead q)
      obtain ⟨ck, W3, b3, e48⟩ := hal3 q
      obtain ⟨s, hs', e⟩ := P5.live q
      have eb : Sp.bounded (clC w3 0) = Sp.ret (clC w3 0) := if_pos b3
      rw [eb] at e
      refine ⟨[(clC w3 0, 0)], s, ⟨?_, fun i d hi => ?_⟩, (by show 1 ≤ 120; decide), hs', e⟩
      · rw [gw3.2.2.1 13 (by decide), gw2.2.2.1 13 rfl, w13]
        rfl
      · cases i with
        | succ i => cases hi
        | zero =>
          have hi : some (clC w3 0, 0) = some d := hi
          rw [← Option.some.inj hi]
          refine ⟨⟨W3, rfl, ?_⟩, rfl⟩
          have q2 : w2.1 32 = 0 := by
            by_cases q2 : w2.1 32 = 0
            · exact q2
            · exact absurd q (w3d q2)
          show w3.2.1 48 0 = 0
          rw [e48]
          exact (hal (by rw [← e32]; exact q2)).2.2.2
    by_cases q : w1.1 32 = 0
    · have q2 : v2.1 32 = 0 := by rw [← w1n 32 (by decide)]; exact q
      obtain ⟨o2, W2, b2, _⟩ := hC2 q2
      obtain ⟨Wu, lu, _⟩ := o1.cl g2.1 gw1 (show (150 : Int) ≠ 0 by decide) W2
      have r150 : w1.2.1 48 150 = 0 := by
        have := (o1 150 (by decide)).2.2.1
        rw [this, (hC2 q2).2.2.2]
        exact r1
      refine pc_copy1 (E := E) gw1.1 (by decide) Wu (fun w2 k2 _ Wc lc r2 => fin w2 k2.1 (fun _ => ⟨Wc, by rw [lc, lu]; exact hus, by rw [← hus]; exact b2, by rw [r2]; exact r150⟩))
    · exact pc_copyD gw1.1 (fun w2 gw2 _ => fin w2 gw2 (fun z => absurd z q))
  · refine ⟨fun _ => ?_, fun q => absurd (e3 ▸ (by have := vi.1; omega)) q⟩
    rw [hsome] at P2
    have P2 : PdK_d B' 600 n r u v2 R (Sp.bd (Sp.indAll D vs (oc v F) us (Sp.paths D.body)) K) := P2
    intro v4 e4 _
    rw [v36] at e4
    have vi2 := vi.up gv2
    have ei2 : oc v2 (v.1 36) = .pr D.name (Ob.ofList vs) := (gv2.oc hT vi.1 vi.2).trans ei
    rw [← e4] at vi2 ei2
    refine pc_left g2.1 vi2 (fun v5 vv5 e5 => ?_)
    rw [ei2] at e5
    have e5 : oc v2 v5 = D.name := e5
    have hD2 := hD.mono hT gv2 (gv2.2.2.1 0 (by decide)) (fun k hk => gv2.2.2.2 k (by unfold f8Yr; simp only [Bool.or_eq_false_iff, decide_eq_false_iff_not]; omega))
    refine pc_functionOf g2.1 hD2 vv5 (fun hno => ?_) (fun d d0 d1 ed hdd => ?_)
    · rw [e5, hdf] at hno; cases hno
    rw [e5, hdf] at hdd
    have hdd : D = dfnC v2 d := Option.some.inj hdd
    have D1 := hD2.2.2 d d0 d1
    obtain ⟨p1, p2, ⟨p3, p4, p5, p6⟩, p7, p8⟩ := D1
    have enm : oc v2 (v2.2.1 0 d) = D.name := by rw [hdd]; rfl
    have epar : Ob.toList (oc v2 (v2.2.1 1 d)) = D.params := by rw [hdd]; rfl
    have ebod : oc v2 (v2.2.1 3 d) = D.body := by rw [hdd]; rfl
    have hDm : D ∈ E.defs := dfm _ _ hdf
    have wb := (hDw D hDm).1
    have zb := hDz D hDm
    obtain ⟨pe, pw⟩ := paths_end har _ D.body (Nat.lt_succ_self _) wb
    have pl := endS_len (Sp.paths D.body)
    have nb := (isName_base p2).1
    have nq : D.name ≠ Ob.quote := by
      rw [← enm]
      exact (isName_base p2).2.2.1
    have arn : Sp.arOf E D.name = (vs.length : Int) := by
      rw [enm] at nb
      have hx := arOf_def nb hdf
      rw [hx, hvl]
    have hlen : (vs.length : Int) = v2.2.1 2 d := by
      have := Ob.len_toList (o := oc v2 (v2.2.1 1 d)) (by omega)
      rw [epar] at this
      omega
    unfold pv_8_addTheoremClauses_48
    refine ⟨fun _ => ?_, fun q => absurd (show d ≠ -1 by omega) q⟩
    intro _ _ v7 e7 _
    rw [e7]
    refine pc_goFirst g2.1 har p7 (by rw [ebod]; exact wb) (by rw [ebod]; exact zb) (fun y0 gy0 cy0 hPa => ?_)
    rw [ebod] at hPa
    have P3 := P2.on gy0 (fun k h => f8h_i k (f8i_X k (hn k h))) (fun k h => f8g_j k (f8j_X k (hr k h))) (gy0.2.2.1 29 (by decide)) (gy0.2.2.1 30 (by decide)) (gy0.2.2.1 31 (by decide)) (gy0.2.2.1 32 (by decide))
    have gy0X : CG f8Xn f8Xr v2 y0 := gy0.mono (fun k h => f8h_i k (f8i_X k h)) (fun k h => f8g_j k (f8j_X k h))
    have rows0 : ∀ k, 46 ≤ k → k ≤ 49 → y0.2.1 k = v2.2.1 k := fun k h1 h2 => gy0.2.2.2 k (by unfold f8g; exact decide_eq_false (by omega))
    refine pv_8_addTheoremClauses_99_i (fun x2 x4 x5 x6 x7 y => x2 = F ∧ x4 = 150 ∧ x5 = d ∧ 0 ≤ x7 ∧ CG f8Xn f8Xr v2 y ∧ ∃ (L : List (List (Ob × Bool) × Ob)) (gs : List Sp.Cla), ((x6 = 1 ∧ PaC y (Sp.arOf E) L) ∨ (x6 = 0 ∧ L = [])) ∧ x7 + (L.length : Int) ≤ 120 ∧ (∀ p, p ∈ L → p ∈ Sp.paths D.body) ∧ (y.1 32 = 0 → GvB y E gs ∧ gs.length + L.length ≤ 120 ∧ (ClW y E 150 ∧ clC y 150 = us ∧ Sp.bnd us = true ∧ y.2.1 48 150 = 0)) ∧ PdK_d B' 1500 n r u y R (Sp.bd (Sp.indAll D vs (oc v F) us L) (fun b => K (gs ++ b)))) ?_ ⟨rfl, rfl, rfl, Int.le_refl _, gy0X, Sp.paths D.body, [], Or.inl ⟨rfl, hPa⟩, by omega, fun _ h => h, fun q => ⟨⟨by rw [gy0.2.2.1 13 (by decide)]; exact v2n13, fun i d hi => by cases hi⟩, by show 0 + (Sp.paths D.body).length ≤ 120; omega, ?_⟩, P3.w⟩
    rotate_left
    · rw [gy0.2.2.1 32 (by decide)] at q
      obtain ⟨o2, W2, b2, e2⟩ := hC2 q
      obtain ⟨Wy, ly⟩ := W2.up g2.1 gy0 rows0
      exact ⟨Wy, by rw [ly]; exact hus, by rw [← hus]; exact b2, by rw [rows0 48 (by decide) (by decide), e2]; exact r1⟩
    rintro x2 x4 x5 x6 x7 y ⟨b2, b4, b5, x70, gy, L, gs, hL, hl, hsub, hal, hPy⟩
    rw [b2, b4, b5]
    have gvy : CG f8Xn f8Xr v y := gX2.tr gy
    unfold pv_8_addTheoremClauses_99b
    refine ⟨fun z => by omega, fun _ => ⟨fun z => ?_, fun z => ?_⟩⟩
    · rcases hL with ⟨q, _⟩ | ⟨_, q⟩
      · omega
      · rw [q] at hPy
        have hPy : PdK_d B' 1500 n r u y R (K (gs ++ [])) := hPy
        rw [List.append_nil] at hPy
        refine hq y gvy (fun q0 => ?_) (fun q0 => hPy.dead q0)
        obtain ⟨s, hs', e⟩ := hPy.live q0
        exact ⟨gs, s, (hal q0).1, by have := (hal q0).2.1; omega, hs', e⟩
    intro v9 e9 _
    refine ⟨fun q0 => hq y gvy (fun q1 => absurd q1 (by rw [← e9]; exact q0)) (fun q1 => hPy.dead q1), fun q0 => ?_⟩
    have ya : y.1 32 = 0 := by rw [← e9]; exact Decidable.not_not.mp q0
    have hPy := hPy.zero (δ' := 0) ya
    rcases hL with ⟨_, hPa⟩ | ⟨q, _⟩
    rotate_left
    · exact absurd q z
    cases L with
    | nil => obtain ⟨_, _, _, _, e⟩ := hPa; cases e
    | cons p L =>
      have hl : x7 + ((L.length + 1 : Nat) : Int) ≤ 120 := hl
      obtain ⟨hG, hgl, W150, l150, bus, r150⟩ := hal ya
      have hgl : gs.length + (L.length + 1) ≤ 120 := hgl
      obtain ⟨pwr, pwe, pze⟩ := pw p (hsub p (List.mem_cons_self))
      rw [ind_cons] at hPy
      refine pc_newClause (E := E) gy.1 hG.1 (by omega) (fun w1 c120 w1n w13 gw1 o1 Wn ln w48 => ?_) (fun w1 c120 _ _ => by omega)
      have Pn := hPy.on gw1 (fun k h => f813_X k (hn k h)) rC (w1n 29 (by decide)) (w1n 30 (by decide)) (w1n 31 (by decide)) (w1n 32 (by decide))
      have ne150 : (150 : Int) ≠ (gs.length : Int) := by omega
      obtain ⟨Wu, lu, ru⟩ := o1.cl gy.1 gw1 ne150 W150
      refine pc_copy1 (E := E) gw1.1 (fun q => ne150 q) Wu (fun w2 k2 n2 Wc lc rc => ?_)
      have P4 := Pn.on k2.1 (fun _ _ => rfl) rC (by rw [n2]) (by rw [n2]) (by rw [n2]) (by rw [n2])
      rw [lu, l150] at lc
      rw [ru, r150] at rc
      have gyw2 : CG f8Xn f8Xr y w2 := (gw1.mono f813_X f8C_X).tr (k2.1.mono (fun _ _ => rfl) f8C_X)
      have gvw2 := gvy.tr gyw2
      have g2w2 : CG f8Xn f8Xr v2 w2 := gy.tr gyw2
      have w2n : ∀ j, j ≠ 13 → w2.1 j = y.1 j := fun j hj => by rw [n2]; exact w1n j hj
      have w2rows : ∀ j, f8C j = false → w2.2.1 j = y.2.1 j := fun j hj => (k2.1.2.2.2 j hj).trans (gw1.2.2.2 j hj)
      have hPa2 := hPa.up gy.1 gyw2 (w2n 33 (by decide)) (w2n 34 (by decide)) (w2rows 31 (by decide)) (w2rows 32 (by decide))
      have r1' : w2.2.1 1 = v2.2.1 1 := g2w2.2.2.2 1 (by decide)
      have r36 : w2.1 36 = v.1 36 := (g2w2.2.2.1 36 (by decide)).trans v36
      intro _ _ v12 e12 _ v13 e13 _
      rw [r1'] at e12
      rw [r36, ← e4] at e13
      have viw := vi2.up g2w2
      have eiw : oc w2 v4 = .pr D.name (Ob.ofList vs) := (g2w2.oc g2.1 vi2.1 vi2.2).trans ei2
      rw [e13]
      refine pc_right g2w2.1 viw (fun v14 vv14 e14 => ?_)
      rw [eiw] at e14
      have e14 : oc w2 v14 = Ob.ofList vs := e14
      obtain ⟨dn, d33, dS, dE, dL⟩ := hPa2
      have hPa2 : PaC w2 (Sp.arOf E) (p :: L) := ⟨dn, d33, dS, dE, dL⟩
      have ep1 : p.1 = preP w2 dn := by rw [(List.cons.inj dL).1]
      have P4 : PdK_d B' 0 n r u w2 R (Sp.bd (Sp.rulersGo (Ob.lkD (D.params.zip vs)) (preP w2 dn) (clC w2 (gs.length : Int))) (fun l => Sp.bd (Sp.hypsGo D vs (oc v F) (Sp.callsIn p.2 D.name) l) (fun l => Sp.bd (Sp.bounded (Sp.putL l (oc v F))) (fun l => Sp.bd (Sp.indAll D vs (oc v F) us L) (fun cl => K (gs ++ ((l, 0) :: cl))))))) := by
        rw [lc, ← ep1]
        exact P4
      have o12 : oc w2 v12 = oc v2 (v2.2.1 1 d) := by rw [e12]; exact g2w2.oc g2.1 p3.1 p3.2
      have vv12 : VN w2 v12 := by rw [e12]; exact p3.up g2w2
      have i12 : itN (oc w2 v12) = (vs.length : Int) := by rw [o12, itN_len (by omega)]; omega
      have i14 : itN (oc w2 v14) = (vs.length : Int) := by
        have : (oc w2 v14).len = (vs.length : Int) := by rw [e14, Ob.len_ofList]
        rw [itN_len (by omega), this]
      have mK : ∀ l : List Ob, Mono (Sp.bd (Sp.bounded (Sp.putL l (oc v F))) (fun l => Sp.bd (Sp.indAll D vs (oc v F) us L) (fun cl => K (gs ++ ((l, 0) :: cl))))) := fun l => Mono.bd Mono.bounded (fun _ => Mono.bd (ind_mono _) (fun _ => hK _))
      have dK : ∀ l : List Ob, Sp.bnd l = false → Die (Sp.bd (Sp.bounded (Sp.putL l (oc v F))) (fun l => Sp.bd (Sp.indAll D vs (oc v F) us L) (fun cl => K (gs ++ ((l, 0) :: cl))))) := fun l hb => Die.left (die_bounded (bndF hb)) _
      refine pc_addRulers (E := E) P4 nY rY fit (fun l => Mono.bd (hyps_mono _ _) mK) (fun l hb => hyps_die dK _ l hb) d33 dS (fun q hq' => ?_) h6 (fun _ => ⟨Wc, by rw [lc]; exact bus⟩) vv12 vv14 (by rw [i12, i14]) (by rw [i12]; omega) (fun q _ x _ => by rw [o12, epar, e14, Ob.toList_ofList]) (fun x hx => by
        rw [o12, epar, e14, Ob.toList_ofList]
        exact lkD_w (P := fun y => Ob.wt (Sp.arOf E) y ∧ y.sz ≤ 120) _ (fun pr hp => var_w (hvv pr.2 (List.of_mem_zip hp).2)) (var_w hx)) (fun w3 gw3 w3d hC3 P5 => ?_)
      · rw [← ep1] at hq'
        exact ⟨(pwr q hq').1, by have := (pwr q hq').2; omega⟩
      have g2w3 : CG f8Xn f8Xr v2 w3 := g2w2.tr (gw3.mono f8Y_X f8Yr_X)
      have gvw3 := gvw2.tr (gw3.mono f8Y_X f8Yr_X)
      have hPa3 := hPa2.up g2w2.1 gw3 (gw3.2.2.1 33 (by decide)) (gw3.2.2.1 34 (by decide)) (gw3.2.2.2 31 (by decide)) (gw3.2.2.2 32 (by decide))
      intro v16 e16 _
      rw [gw3.2.2.1 36 (by decide), r36, ← e4] at e16
      rw [e16]
      have viw3 := vi2.up g2w3
      have eiw3 : oc w3 v4 = .pr D.name (Ob.ofList vs) := (g2w3.oc g2.1 vi2.1 vi2.2).trans ei2
      refine pc_right g2w3.1 viw3 (fun v17 vv17 e17 => ?_)
      rw [eiw3] at e17
      have e17 : oc w3 v17 = Ob.ofList vs := e17
      obtain ⟨D13, dfn3⟩ := D1c.mono (d := d) ⟨p1, p2, ⟨p3, p4, p5, p6⟩, p7, p8⟩ g2.1 g2w3 (fun k hk => g2w3.2.2.2 k (by unfold f8Xr; simp only [Bool.or_eq_false_iff, decide_eq_false_iff_not]; omega))
      have dfn3 : dfnC w3 d = D := by rw [dfn3, ← hdd]
      have nm3 : oc w3 (w3.2.1 0 d) = D.name := by rw [← dfn3]; rfl
      obtain ⟨nF3, eF3⟩ := hF.up hT gvw3
      have P6 : PdK_d B' 900 n r u w3 R (Sp.bd (Sp.hypsGo (dfnC w3 d) vs (oc w3 F) (Sp.callsIn p.2 (oc w3 (w3.2.1 0 d))) (clC w3 (gs.length : Int))) (fun l => Sp.bd (Sp.bounded (Sp.putL l (oc v F))) (fun l => Sp.bd (Sp.indAll D vs (oc v F) us L) (fun cl => K (gs ++ ((l, 0) :: cl)))))) := by
        rw [dfn3, nm3, eF3]
        exact P5
      refine pc_addHyps (E := E) P6 (fun k h => f8Z_X k (hn k h)) (fun k h => f8Zr_X k (hr k h)) fit mK dK h6 hPa3 D13 nF3 vv17 e17 (by rw [g2w3.2.2.2 2 (by decide)]; exact hlen) hvv (fun cc hcc => ?_) (fun q => ⟨(hC3 q).2.1, (hC3 q).2.2.1⟩) (fun w4 gw4 w4d hC4 P7 => ?_)
      · rw [nm3] at hcc ⊢
        exact call_args pwe (by omega) nq arn hcc
      have gvw4 : CG f8Xn f8Xr v w4 := gvw3.tr (gw4.mono f8Z_X f8Zr_X)
      obtain ⟨nF4, eF4⟩ := hF.up hT gvw4
      rw [← eF4] at P7
      refine pc_joinP (E := E) (K := fun l' => Sp.bd (Sp.bounded l') (fun l => Sp.bd (Sp.indAll D vs (oc w4 F) us L) (fun cl => K (gs ++ ((l, 0) :: cl))))) P7 (fun j h => f8T_Y j (nY j h)) rC (fun q => ⟨(hC4 q).2.1, (hC4 q).2.2.1⟩) nF4.d (fun l hb => Die.left (die_bounded hb) _) (fun w5 gw5 _ w5d hal5 P8 => ?_)
      have hPa5 := (hPa3.up g2w3.1 gw4 (gw4.2.2.1 33 (by decide)) (gw4.2.2.1 34 (by decide)) (gw4.2.2.2 31 (by decide)) (gw4.2.2.2 32 (by decide))).up gw4.1 gw5 (gw5.2.2.1 33 (by decide)) (gw5.2.2.1 34 (by decide)) (gw5.2.2.2 31 (by decide)) (gw5.2.2.2 32 (by decide))
      have g25 : CG f8Xn f8Xr w2 w5 := ((gw3.mono f8Y_X f8Yr_X).tr (gw4.mono f8Z_X f8Zr_X)).tr (gw5.mono (fun k h => f8T_Y k (f8Y_X k h)) f8C_X)
      have gy5 : CG f8Xn f8Xr y w5 := gyw2.tr g25
      have n13 : w5.1 13 = (gs.length : Int) + 1 := by rw [gw5.2.2.1 13 (by decide), gw4.2.2.1 13 (by decide), gw3.2.2.1 13 (by decide), n2, w13]
      -- what is there now
      have now : w5.1 32 = 0 → GvB w5 E (gs ++ [(clC w5 (gs.length : Int), 0)]) ∧ (ClW w5 E 150 ∧ clC w5 150 = us ∧ Sp.bnd us = true ∧ w5.2.1 48 150 = 0) ∧ Sp.bnd (clC w5 (gs.length : Int)) = true := fun q => by
        obtain ⟨ck, W5, b5', e48⟩ := hal5 q
        have q4 : w4.1 32 = 0 := by
          by_cases q4 : w4.1 32 = 0
          · exact q4
          · exact absurd q (w5d q4)
        obtain ⟨o4, W4, b4', e4'⟩ := hC4 q4
        have q3 : w3.1 32 = 0 := by
          by_cases q3 : w3.1 32 = 0
          · exact q3
          · exact absurd q4 (w4d q3)
        obtain ⟨o3, W3, b3', e3'⟩ := hC3 q3
        have oAll : OtC (fun j => j ≠ (gs.length : Int)) y w5 := o1.tr ((k2.ot (fun j hj => hj)).tr (o3.tr (o4.tr (ck.ot (fun j hj => hj)))))
        obtain ⟨Wz, lz, rz⟩ := oAll.cl gy.1 gy5 ne150 W150
        refine ⟨⟨by rw [n13, List.length_append]; show _ = ((gs.length + 1 : Nat) : Int); omega, fun i d' hi => ?_⟩, ⟨Wz, by rw [lz]; exact l150, bus, by rw [rz]; exact r150⟩, b5'⟩
        by_cases ci : i < gs.length
        · rw [List.getElem?_append_left ci] at hi
          exact ⟨(hG.2 i d' hi).1.ot oAll gy.1 gy5 (by omega), (hG.2 i d' hi).2⟩
        · have hi2 := (List.getElem?_eq_some_iff.mp hi).1
          rw [List.length_append] at hi2
          have hi2 : i < gs.length + 1 := hi2
          have ei' : i = gs.length := by omega
          rw [ei', List.getElem?_append_right (Nat.le_refl _), Nat.sub_self] at hi
          have hi : some (clC w5 (gs.length : Int), 0) = some d' := hi
          rw [← Option.some.inj hi, ei']
          refine ⟨⟨W5, rfl, ?_⟩, rfl⟩
          show w5.2.1 48 (gs.length : Int) = 0
          rw [e48, e4', e3', rc]
      have P9 : PdK_d B' 1500 n r u w5 R (Sp.bd (Sp.indAll D vs (oc v F) us L) (fun b => K ((gs ++ [(clC w5 (gs.length : Int), 0)]) ++ b))) := by
        by_cases q : w5.1 32 = 0
        · have eb : Sp.bounded (clC w5 (gs.length : Int)) = Sp.ret (clC w5 (gs.length : Int)) := if_pos (now q).2.2
          rw [eb, eF4] at P8
          have P8 : PdK_d B' 1500 n r u w5 R (Sp.bd (Sp.indAll D vs (oc v F) us L) (fun cl => K (gs ++ ((clC w5 (gs.length : Int), 0) :: cl)))) := P8
          simp only [List.append_assoc, List.cons_append, List.nil_append]
          exact P8
        · exact P8.any q _
      have sub : ∀ p', p' ∈ L → p' ∈ Sp.paths D.body := fun p' h => hsub p' (List.mem_cons_of_mem _ h)
      have next : ∀ z, CG f8h f8g w5 z → CG f8Xn f8Xr v2 z ∧ (z.1 32 = 0 → GvB z E (gs ++ [(clC w5 (gs.length : Int), 0)]) ∧ (gs ++ [(clC w5 (gs.length : Int), 0)]).length + L.length ≤ 120 ∧ (ClW z E 150 ∧ clC z 150 = us ∧ Sp.bnd us = true ∧ z.2.1 48 150 = 0)) ∧ PdK_d B' 1500 n r u z R (Sp.bd (Sp.indAll D vs (oc v F) us L) (fun b => K ((gs ++ [(clC w5 (gs.length : Int), 0)]) ++ b))) := fun z gz => by
        have rz : ∀ k, 46 ≤ k → k ≤ 49 → z.2.1 k = w5.2.1 k := fun k h1 h2 => gz.2.2.2 k (by unfold f8g; exact decide_eq_false (by omega))
        refine ⟨(gy.tr gy5).tr (gz.mono (fun k h => f8h_i k (f8i_X k h)) (fun k h => f8g_j k (f8j_X k h))), fun q => ?_, P9.on gz (fun k h => f8h_i k (f8i_X k (hn k h))) (fun k h => f8g_j k (f8j_X k (hr k h))) (gz.2.2.1 29 (by decide)) (gz.2.2.1 30 (by decide)) (gz.2.2.1 31 (by decide)) (gz.2.2.1 32 (by decide))⟩
        rw [gz.2.2.1 32 (by decide)] at q
        obtain ⟨a1, ⟨a2, a3, a4, a5⟩, _⟩ := now q
        obtain ⟨Wz, lz⟩ := a2.up gw5.1 gz rz
        refine ⟨a1.up gw5.1 gz (gz.2.2.1 13 (by decide)) (OtC.of (P := fun _ => True) rz) (fun _ _ => trivial), ?_, Wz, by rw [lz]; exact a3, a4, by rw [rz 48 (by decide) (by decide)]; exact a5⟩
        rw [List.length_append]
        show gs.length + 1 + L.length ≤ 120
        omega
      refine pc_goNext gw5.1 har hPa5 (fun z e gz _ => ?_) (fun z gz _ hz => ?_)
      · intro _
        obtain ⟨n1', n2', n3'⟩ := next z gz
        exact ⟨rfl, rfl, rfl, by omega, n1', L, _, Or.inr ⟨rfl, e⟩, by omega, sub, n2', n3'⟩
      · intro _
        obtain ⟨n1', n2', n3'⟩ := next z gz
        exact ⟨rfl, rfl, rfl, by omega, n1', L, _, Or.inl ⟨rfl, hz⟩, by omega, sub, n2', n3'⟩
