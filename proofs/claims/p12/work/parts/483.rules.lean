-- deps: 482
theorem lk_append [DecidableEq Ob] (x : Ob) : ∀ (a b : List (Ob × Ob)), Ob.lk (a ++ b) x = match Ob.lk a x with | some y => some y | none => Ob.lk b x
  | [], b => rfl
  | (p, q) :: a, b => by
    rw [List.cons_append, lk_cons, lk_cons]
    by_cases c : p = x
    · rw [if_pos c, if_pos c]
    · rw [if_neg c, if_neg c]; exact lk_append x a b
theorem lk_rng [DecidableEq Ob] {f g : Nat → Ob} : ∀ n : Nat, (∀ i j, i < j → j < n → f i ≠ f j) → (∀ i, i < n → Ob.lk ((List.range n).map (fun i => (f i, g i))) (f i) = some (g i)) ∧ ∀ x, (∀ i, i < n → f i ≠ x) → Ob.lk ((List.range n).map (fun i => (f i, g i))) x = none
  | 0, _ => ⟨fun i hi => by omega, fun x _ => rfl⟩
  | n + 1, h => by
    obtain ⟨h1, h2⟩ := lk_rng (f := f) (g := g) n (fun i j hi hj => h i j hi (by omega))
    rw [List.range_succ, List.map_append]
    refine ⟨fun i hi => ?_, fun x hx => ?_⟩
    · rw [lk_append]
      by_cases c : i < n
      · rw [h1 i c]
      · have : i = n := by omega
        subst this
        rw [h2 (f i) (fun j hj => h j i hj (by omega))]
        show (if f i = f i then some (g i) else none) = _
        rw [if_pos rfl]
    · rw [lk_append, h2 x (fun i hi => hx i (by omega))]
      show (if f n = x then some (g n) else none) = none
      rw [if_neg (hx n (by omega))]
theorem BdOk.some [DecidableEq Ob] {v : iST} {E : Sp.Env} {k only : Int} {p : Ob} (hT : TI v) (hU : TU v) (h : BdOk v E k only p) : ∃ s, AgB v k s := by
  obtain ⟨b0, b1, b2, _⟩ := h
  have := (lk_rng (f := fun i : Nat => ob v (v.2.1 105 (130 * k + (i : Int)))) (g := fun i : Nat => ob v (v.2.1 106 (130 * k + (i : Int)))) (v.2.1 107 k).toNat (fun i j hi hj e => by
    have x := (b1 (i : Int) (by omega) (by omega)).1
    have y := (b1 (j : Int) (by omega) (by omega)).1
    exact b2 i j (by omega) (by omega) (by omega) ((hT.inj hU x.1 x.2.1 y.1 y.2.1).mp e))).1
  refine ⟨Ob.lkD ((List.range (v.2.1 107 k).toNat).map (fun i : Nat => (ob v (v.2.1 105 (130 * k + (i : Int))), ob v (v.2.1 106 (130 * k + (i : Int)))))), fun i i0 i1 => ?_⟩
  have e := this i.toNat (by omega)
  rw [Int.toNat_of_nonneg i0] at e
  unfold Ob.lkD
  rw [e]
  rfl
theorem mt_sound [DecidableEq Ob] {ar : Ob → Int} {p o : Ob} {l : List (Ob × Ob)} (hp : Ob.wt ar p) (ho : Ob.wt ar o) (h : Ob.mt p o = some l) : Ob.sbM (Ob.lkD l) false p = o :=
  ((mt_go false p o hp ho (fun z => by cases z) []).1 l h).2.1 _ (Ag_lkD l)
theorem take_rev [DecidableEq Ob] {α : Type} (l : List α) (n : Nat) (a : α) (h : l[n]? = some a) : (l.take (n + 1)).reverse = a :: (l.take n).reverse := by
  rw [List.take_add_one, h, List.reverse_append]
  rfl
theorem MS.rk [DecidableEq Ob] {j : Int} {v w : iST} (h : MS j v w) (r c : Int) : RK j r c v w := by
  have q : ∀ n, n ≤ 104 ∨ n = 108 → w.2.1 n = v.2.1 n := fun n hn => (h.1.2.2.2.2 n (by unfold f7X; simp only [Bool.or_eq_false_iff, decide_eq_false_iff_not]; omega)).2
  exact ⟨h.1.mono f7X_J, (h.1.2.2.2.2 71 (by decide)).1, fun n i n0 n1 _ => congrFun (q n (by omega)) i, fun i _ => congrFun (q 103 (by decide)) i, fun i hi => h.2.1 i hi, fun i hi => h.2.2 i hi, fun i _ => congrFun (q 108 (by decide)) i⟩
/-- one rule: what the specification does with it -/
def Sp.ruleGoes [DecidableEq Ob] (E : Sp.Env) (r : Ob → Bool → Sp.M Ob) (u : Ob) (truth : Bool) (ks : List Sp.Thm) (Rl : Sp.Rul) (l : List (Ob × Ob)) : Sp.M Ob :=
  Sp.bd (if Rl.perm then Sp.bd (Sp.fill (Ob.lkD l) Rl.rhs) fun x => Sp.ret (Ob.smaller x u) else Sp.ret true) fun g =>
        if g then Sp.bd (Sp.rwHyps (fun h => r h true) (Ob.lkD l) Rl.hyps) fun b =>
          if b then Sp.bd (Sp.fill (Ob.lkD l) Rl.rhs) fun x => r x truth else Sp.rwRules E r u truth ks
        else Sp.rwRules E r u truth ks
theorem rr_skip [DecidableEq Ob] {E : Sp.Env} {r : Ob → Bool → Sp.M Ob} {u : Ob} {truth : Bool} {k : Sp.Thm} {ks : List Sp.Thm} (h : Sp.can E k truth = none ∨ ∃ Rl, Sp.can E k truth = some Rl ∧ Ob.mt Rl.lhs u = none) : Sp.rwRules E r u truth (k :: ks) = Sp.rwRules E r u truth ks := by
  rw [Sp.rwRules.eq_2]
  rcases h with h | ⟨Rl, h, g⟩
  · rw [h]
  · rw [h]
    show (match Ob.mt Rl.lhs u with | none => _ | some l => _) = _
    rw [g]
theorem rr_go [DecidableEq Ob] {E : Sp.Env} {r : Ob → Bool → Sp.M Ob} {u : Ob} {truth : Bool} {k : Sp.Thm} {ks : List Sp.Thm} {Rl : Sp.Rul} {l : List (Ob × Ob)} (h : Sp.can E k truth = some Rl) (g : Ob.mt Rl.lhs u = some l) : Sp.rwRules E r u truth (k :: ks) = Sp.bd Sp.tick (fun _ => Sp.ruleGoes E r u truth ks Rl l) := by
  rw [Sp.rwRules.eq_2, h]
  show (match Ob.mt Rl.lhs u with | none => _ | some l => _) = _
  rw [g]
  rfl
theorem rw_try [DecidableEq Ob] {u0 : iST} {E : Sp.Env} {Q : Int → iST → Prop} {d : Nat} (hT0 : TI u0) (hE : EnvS u0 E) (ih : RwG u0 E Q d) : ∀ n : Nat, (n : Int) ≤ u0.1 42 → TryG u0 E Q d n
  | 0, _ => by
    intro v0 v R tr s k hO hI hd h104 h109 h92 nk hc hR hb
    refine fo_w_tryRules_10 ?_
    unfold pw_tryRules_10b
    refine ⟨fun _ => ?_, fun z => absurd (by decide) z⟩
    unfold pw_tryRules_186
    intro x ex _
    subst ex
    exact ⟨fun z => hO.bad hI (hb z) z, fun z => rw_define hT0 hE ih hO hI hd (Decidable.not_not.mp z) h104 h109 h92 nk hc (hR (Decidable.not_not.mp z))⟩
  | n + 1, hn => by
    have hC := rw_try hT0 hE ih n (by omega)
    intro v0 v R tr s k hO hI hd h104 h109 h92 nk hc hR hb
    rw [show ((n + 1 : Nat) : Int) - 1 = (n : Int) by omega]
    have hT := hI.2.1.1.1
    have hU := hI.2.1.1.2.1
    have hEv := hI.env hT0 hE
    have h71 : 0 ≤ v.1 71 := by rw [hI.2.1.2.1]; exact hI.2.2.2.2.2.2.2.2.2
    have e42 : v.1 42 = u0.1 42 := ((hI.1.tr hI.2.1.1).2.2.2.2 42 (by decide)).1
    obtain ⟨th1, th2, th3, th4⟩ := hEv.2.2.2
    have hthm := th3 (n : Int) (by omega) (by omega)
    have hmut := th4 (n : Int) (by omega) (by omega)
    have hget : E.thms[n]? = some (thm1 v (n : Int)) := by
      rw [th1]
      unfold thmsL
      rw [List.getElem?_map, List.getElem?_range (by omega)]
      rfl
    have htk := take_rev E.thms n _ hget
    refine fo_w_tryRules_10 ?_
    unfold pw_tryRules_10b
    refine ⟨fun z => by omega, fun _ => ?_⟩
    intro x ex _
    subst ex
    refine ⟨fun z => ?_, fun h61 => ?_⟩
    · unfold pw_tryRules_186
      intro x ex _
      subst ex
      exact ⟨fun z => hO.bad hI (hb z) z, fun z' => absurd z z'⟩
    have h61 : v.1 61 = 0 := Decidable.not_not.mp h61
    have hR := hR h61
    rw [htk] at hR
    have skip : Sp.can E (thm1 v (n : Int)) (decide (tr ≠ 0)) = none → pw_tryRules_10 (fun w => pw_rewritten_21 Q w) (v0.1 102) k ((n : Int) + -1) v := by
      intro hs
      rw [show (n : Int) + -1 = (n : Int) - 1 by omega]
      exact hC v0 v R tr s k hO hI hd h104 h109 h92 nk hc (fun _ => by rw [hR, rr_skip (Or.inl hs)]) hb
    -- what a rule that may be used is
    have hrule : v.2.1 46 (n : Int) ≠ -1 → (thm1 v (n : Int)).rule = some (ob v (v.2.1 46 (n : Int)), ob v (v.2.1 47 (n : Int)), hypL v (n : Int), decide (v.2.1 51 (n : Int) ≠ 0), decide (v.2.1 50 (n : Int) ≠ 0), decide (v.2.1 52 (n : Int) ≠ 0)) := fun z => if_neg z
    have hcan : v.2.1 46 (n : Int) ≠ -1 → Sp.can E (thm1 v (n : Int)) (decide (tr ≠ 0)) = if decide (v.2.1 52 (n : Int) ≠ 0) && !Ob.has E.muted (ob v (v.2.1 43 (n : Int))) && (decide (tr ≠ 0) || !decide (v.2.1 51 (n : Int) ≠ 0)) then some (ob v (v.2.1 46 (n : Int)), ob v (v.2.1 47 (n : Int)), hypL v (n : Int), decide (v.2.1 51 (n : Int) ≠ 0), decide (v.2.1 50 (n : Int) ≠ 0), decide (v.2.1 52 (n : Int) ≠ 0)) else none := by
      intro z
      unfold Sp.can
      rw [hrule z]
      rfl
    intro _ _ x46 ex46 _
    refine ⟨fun z _ => skip ?_, fun h46 => ?_⟩
    · unfold Sp.can
      rw [show (thm1 v (n : Int)).rule = none from if_pos (by rw [← ex46]; exact z)]
    have h46 : v.2.1 46 (n : Int) ≠ -1 := by rw [← ex46]; exact h46
    have hcn := hcan h46
    obtain ⟨_, _, hth⟩ := hthm
    obtain ⟨c1, ⟨c2, c2s⟩, c3, c4, c5, c6⟩ := hth h46
    intro _ _ x52 ex52 _
    refine ⟨fun z _ => skip (by rw [hcn, if_neg (by rw [decide_eq_false (not_not_intro (ex52.symm.trans z))]; simp)]), fun hon => ?_⟩
    have hon : v.2.1 52 (n : Int) ≠ 0 := by rw [← ex52]; exact hon
    intro _ _ x53 ex53 _
    refine ⟨fun z _ => skip (by rw [hcn, if_neg (by rw [hmut.mp (by rw [← ex53]; exact z)]; simp)]), fun hout => ?_⟩
    have hnm : Ob.has E.muted (ob v (v.2.1 43 (n : Int))) = false := by
      cases e : Ob.has E.muted (ob v (v.2.1 43 (n : Int))) with
      | false => rfl
      | true => exact absurd (ex53.symm.trans (Decidable.not_not.mp hout)) (hmut.mpr e)
    -- the rule is tried
    have main : (decide (tr ≠ 0) || !decide (v.2.1 51 (n : Int) ≠ 0)) = true → pw_tryRules_72 (fun x1 x3 x4 u => pw_tryRules_10 (fun w => pw_rewritten_21 Q w) x1 x3 x4 u) (fun w => pw_rewritten_21 Q w) (v0.1 102) k (n : Int) v := by
      intro htr
      rw [if_pos (by rw [decide_eq_true hon, hnm, htr]; rfl)] at hcn
      have skip2 : ∀ w : iST, InJ u0 E v0 w tr s → w.1 61 = 0 → w.1 104 = v0.1 104 → w.1 109 = v0.1 109 → w.2.1 92 (v0.1 102) = k → Nd w E k → ob w k = ob v k → Ob.mt (ob v (v.2.1 46 (n : Int))) (ob v k) = none → pw_tryRules_10 (fun w => pw_rewritten_21 Q w) (v0.1 102) k ((n : Int) + -1) w := by
        intro w iw w61 w104 w109 w92 nkw ekw hm
        rw [show (n : Int) + -1 = (n : Int) - 1 by omega]
        exact hC v0 w R tr s k hO iw hd w104 w109 w92 nkw (by rw [ekw]; exact hc) (fun _ => by rw [hR, rr_skip (Or.inr ⟨_, hcn, hm⟩), ekw]) (fun z => absurd w61 z)
      obtain ⟨f, lf, e1, f1, f2, f3, f4⟩ := c1.call c2
      obtain ⟨g, lg, e2, g1, g2, g3, g4⟩ := nk.call hc
      have c10 := c1.1
      have c11 := c1.2.1
      obtain ⟨p0, p1, _, _, eLf, _, _⟩ := ob_lft hT c1.1 c1.2.1 (by rw [e1]; rfl)
      obtain ⟨q0, q1, _, _, eLg, _, _⟩ := ob_lft hT nk.1 nk.2.1 (by rw [e2]; rfl)
      have nk1 := nk.2.1
      have hin := hT.inj hU p0 (by omega) q0 (by omega)
      rw [← eLf, ← eLg, e1, e2] at hin
      unfold pw_tryRules_72
      intro _ _ y1 ey1 _ _ _ y2 ey2 _ _ _ y3 ey3 _
      rw [ey1] at ey2
      rw [ey2, ey3]
      refine ⟨fun hne _ => skip2 v hI h61 h104 h109 h92 nk rfl ?_, fun heq => ?_⟩
      · have hfg : f ≠ g := fun z => hne (hin.mp z)
        rw [e1, e2, show Ob.mt (.pr f (Ob.ofList lf)) (.pr g (Ob.ofList lg)) = _ from mt_pr _ _ _ _, if_neg f1, if_neg]
        rw [Ob.isCallOf_pr, decide_eq_true_eq]
        exact fun z => hfg z.symm
      · intro _ _ y4 ey4 _
        rw [ey4]
        have miff := mt_iff (ar := Sp.arOf E) c1.2.2.2 nk.2.2.2
        refine p_matches hT hU c1 nk (fun w mw wn hno => ⟨fun _ _ => ?_, fun z => absurd rfl z⟩) (fun w mw wn wB wS wK => ⟨fun z => absurd z (by decide), fun _ => ?_⟩)
        · have kw := mw.rk (v0.1 104) (v0.1 109)
          have iw : InJ u0 E v0 w tr s := hI.keep kw (Int.le_refl _) (Int.le_refl _) (Int.le_refl _) (by rw [wn]) (by rw [wn]; exact hI.2.2.2.1) (by unfold StL; rw [wn]; exact hI.2.2.2.2.1) ((congrFun (mw.1.2.2.2.2 93 (by decide)).2 _).trans hI.2.2.2.2.2.1)
          obtain ⟨nkw, ekw⟩ := nk.mono hT kw.1
          exact skip2 w iw (by rw [wn]; exact h61) (by rw [wn]; exact h104) (by rw [wn]; exact h109) ((congrFun (mw.1.2.2.2.2 92 (by decide)).2 _).trans h92) nkw ekw (miff.1.mpr (fun s => hno s (fun z => absurd rfl z)))
        · have gd : ∀ s, Gd 0 (ob v (v.2.1 46 (n : Int))) s := fun s z => absurd rfl z
          have kw := mw.rk (v0.1 104) (v0.1 109)
          have hTw := kw.1.1
          have hUw := kw.1.2.1
          obtain ⟨l, hl⟩ : ∃ l, Ob.mt (ob v (v.2.1 46 (n : Int))) (ob v k) = some l := by
            cases e : Ob.mt (ob v (v.2.1 46 (n : Int))) (ob v k) with
            | some l => exact ⟨l, rfl⟩
            | none =>
              obtain ⟨s0, hs0⟩ := wB.some hTw hUw
              exact absurd ((wS s0 (gd s0)).mpr hs0) (miff.1.mp e s0)
          have hsound := mt_sound (ar := Sp.arOf E) c1.2.2.2 nk.2.2.2 hl
          have hag := (wS _ (gd _)).mp hsound
          have hBw : BdS w E (v0.1 102) (ob v (v.2.1 46 (n : Int))) l := ⟨wB, hag, wK, c2s⟩
          rw [rr_go hcn hl] at hR
          have iw : InJ u0 E v0 w tr s := hI.keep kw (Int.le_refl _) (Int.le_refl _) (Int.le_refl _) (by rw [wn]) (by rw [wn]; exact hI.2.2.2.1) (by unfold StL; rw [wn]; exact hI.2.2.2.2.1) ((congrFun (mw.1.2.2.2.2 93 (by decide)).2 _).trans hI.2.2.2.2.2.1)
          have w92 : w.2.1 92 (v0.1 102) = k := (congrFun (mw.1.2.2.2.2 92 (by decide)).2 _).trans h92
          unfold pw_isStep
          intro a ea _ b eb _
          rw [wn] at ea eb
          refine ⟨fun hst => ?_, fun hst => ?_⟩
          · intro c ec _ _ t et _
            have hs : s.1 ≠ 0 := by intro z; have := hI.2.2.2.2.1; unfold StL at this; omega
            have kt : ∀ j r c, RK j r c w t := fun j r c => by rw [et]; exact RK_I hTw hUw (by decide) (by decide) (by decide) _ _ _
            have tn : ∀ q, q ≠ 60 → t.1 q = v.1 q := fun q hq => by rw [et]; show (if q = 60 then _ else w.1 q) = _; rw [if_neg hq, wn]
            have t60 : t.1 60 = v.1 60 + 1 := by rw [et, ec, wn]; rfl
            have t2 : t.2 = w.2 := by rw [et]; rfl
            clear et ec
            have tick : Sp.tick s = .ok () (s.1 - 1, s.2) := if_neg hs
            have hR2 : R = Sp.bd (Sp.ruleGoes E (Sp.rw E d (cxL v0)) (ob v k) (decide (tr ≠ 0)) (E.thms.take n).reverse (ob v (v.2.1 46 (n : Int)), ob v (v.2.1 47 (n : Int)), hypL v (n : Int), decide (v.2.1 51 (n : Int) ≠ 0), decide (v.2.1 50 (n : Int) ≠ 0), decide (v.2.1 52 (n : Int) ≠ 0)) l) (fun y => Sp.ret (Sp.fin (decide (tr ≠ 0)) y)) (s.1 - 1, s.2) := by rw [hR, bd_ok2 tick]
            clear hR
            have it : InJ u0 E v0 t tr (s.1 - 1, s.2) := iw.keep (kt (v0.1 102) (v0.1 104) (v0.1 109)) (Int.le_refl _) (Int.le_refl _) (Int.le_refl _) (by rw [tn 102 (by decide), wn]) (by rw [tn 64 (by decide)]; exact hI.2.2.2.1) (by
              have := hI.2.2.2.2.1
              unfold StL at this ⊢
              rw [t60, tn 59 (by decide)]
              show v.1 60 + 1 + ((s.1 - 1 : Nat) : Int) = _
              omega) (by rw [t2]; exact iw.2.2.2.2.2.1)
            have hBt := hBw.keep hTw hUw (kt (v0.1 102 + 1) 0 0).bd
            refine ⟨fun _ => ?_, fun z => absurd z (by decide)⟩
            refine p_takePairs (kt 0 0 0).1.1 (kt 0 0 0).1.2.1 hBt.1 (fun p gp pP pl pN => ?_)
            have r75 : ∀ q, 75 ≤ q → p.1 q = t.1 q ∧ p.2.1 q = t.2.1 q := fun q hq => gp.2.2.2.2 q (by unfold f7P; simp only [decide_eq_false_iff_not]; omega)
            have gpJ := gp.mono f7P_J
            have ip := it.hi gpJ (gp.2.2.2.2 71 (by decide)).1 r75 (gp.2.2.2.2 64 (by decide)).1 (gp.2.2.2.2 60 (by decide)).1
            have gvp : GZ f7J v p := (kw.1.tr (kt 0 0 0).1).tr gpJ
            have low : ∀ q, 42 ≤ q → q ≤ 53 → p.1 q = v.1 q ∧ p.2.1 q = v.2.1 q := fun q h1 h2 => gvp.2.2.2.2 q (f7J_mid q (by omega) (by omega))
            have bEp : BdE (v0.1 102) t p := (RK_hi (c := 0) (r := 0) gpJ (gp.2.2.2.2 71 (by decide)).1 r75 (v0.1 102 + 1)).bd
            have hBp := hBt.keep (kt 0 0 0).1.1 (kt 0 0 0).1.2.1 bEp
            have p61 : p.1 61 = 0 := by rw [(gp.2.2.2.2 61 (by decide)).1, tn 61 (by decide)]; exact h61
            have p104 : p.1 104 = v0.1 104 := by rw [(r75 104 (by decide)).1, tn 104 (by decide)]; exact h104
            have p109 : p.1 109 = v0.1 109 := by rw [(r75 109 (by decide)).1, tn 109 (by decide)]; exact h109
            have p92 : p.2.1 92 (v0.1 102) = k := by rw [(r75 92 (by decide)).2, t2]; exact w92
            have sig : ∀ x, vr false (ob v (v.2.1 46 (n : Int))) x → Ob.lkD (prs p) x = Ob.lkD l x ∧ Ob.wt (Sp.arOf E) (Ob.lkD l x) := fun x hx => ⟨pl _ hBt.2.1 x (hBt.2.2.1 x hx), hBt.wt hx⟩
            -- the hypotheses begin
            have begin' : ∀ (z : iST) (s2 : Sp.Wk), GZ f7J v z → InJ u0 E v0 z tr s2 → z.1 104 = v0.1 104 → z.1 109 = v0.1 109 → z.2.1 92 (v0.1 102) = k → BdS z E (v0.1 102) (ob v (v.2.1 46 (n : Int))) l → (z.1 61 = 0 → R = Sp.bd (Sp.bd (Sp.rwHyps (fun h => Sp.rw E d (cxL v0) h true) (Ob.lkD l) (hypL v (n : Int))) (fun b => if b then Sp.bd (Sp.fill (Ob.lkD l) (ob v (v.2.1 47 (n : Int)))) (fun x => Sp.rw E d (cxL v0) x (decide (tr ≠ 0))) else Sp.rwRules E (Sp.rw E d (cxL v0)) (ob v k) (decide (tr ≠ 0)) (E.thms.take n).reverse)) (fun y => Sp.ret (Sp.fin (decide (tr ≠ 0)) y)) s2) → (z.1 61 ≠ 0 → R = .error () s2) → pw_tryRules_152 (fun w => pw_rewritten_21 Q w) (v0.1 102) (n : Int) z := by
              intro z s2 gz iz z104 z109 z92 hBz hz1 hz2
              unfold pw_tryRules_152
              intro _ _ z1 e1 _ _ z2 e2 x ex _
              have be1 : BdE (v0.1 102) z z1 := by
                rw [e1]
                have k6 : RK (v0.1 102) 0 0 z (iA z 100 (v0.1 102) (n : Int)) := RK_A gz.1 gz.2.1 (by decide) (by decide) (fun _ _ => Int.le_refl _) (fun z => by cases z) (fun z => by omega) (fun z => by cases z) (fun z => by cases z)
                exact ⟨k6.1, fun _ _ => ⟨rfl, rfl⟩, rfl⟩
              obtain ⟨i1, k1, n1, m1⟩ := iz.row e1 (by decide)
              have be2 : BdE (v0.1 102) z1 z2 := by
                rw [e2]
                have k6 : RK (v0.1 102) 0 0 z1 (iA z1 101 (v0.1 102) 0) := RK_A be1.1.1 be1.1.2.1 (by decide) (by decide) (fun _ _ => Int.le_refl _) (fun z => by cases z) (fun z => by omega) (fun z => by cases z) (fun z => by cases z)
                exact ⟨k6.1, fun _ _ => ⟨rfl, rfl⟩, rfl⟩
              obtain ⟨i2, k2, n2, m2⟩ := i1.row e2 (by decide)
              clear e1 e2
              have be := be1.tr be2
              have hBz2 := hBz.keep gz.1 gz.2.1 be
              have gv2 : GZ f7J v z2 := gz.tr be.1
              rw [n2, n1] at ex
              rw [ex]
              refine ⟨fun hz => hO.bad i2 (hz2 hz) (by rw [n2, n1]; exact hz), fun hz => ?_⟩
              have hz := Decidable.not_not.mp hz
              have low2 : ∀ q, 42 ≤ q → q ≤ 53 → z2.1 q = v.1 q ∧ z2.2.1 q = v.2.1 q := fun q h1 h2 => gv2.2.2.2.2 q (f7J_mid q (by omega) (by omega))
              obtain ⟨nk2, ek2⟩ := nk.mono hT gv2
              have ehyp : hypL z2 (n : Int) = hypL v (n : Int) := by
                unfold hypL
                rw [(low2 48 (by decide) (by decide)).2, (low2 49 (by decide) (by decide)).2]
                refine List.map_congr_left (fun q hq => ?_)
                have hq := List.mem_range.mp hq
                exact ((c6 (q : Int) (by omega) (by omega)).1.mono hT gv2).2
              refine rw_hyp (k := k) (o := ob v k) (l := l) (hyps := hypL v (n : Int)) (lhs := ob v (v.2.1 46 (n : Int))) (rhs := ob v (v.2.1 47 (n : Int))) hT0 hE ih hC hO hd hc (hypL v (n : Int)).length z2 s2 0 i2 (by rw [n2, n1]; exact hz) (by rw [n2, n1]; exact z104) (by rw [n2, n1]; exact z109) (by rw [m2, if_neg (by decide), m1, if_neg (by decide)]; exact z92) nk2 ek2 (by rw [m2, if_neg (by decide), m1, if_pos rfl]) (by rw [m2, if_pos rfl]; rfl) (by omega) (by rw [(low2 42 (by decide) (by decide)).1]; omega) (by rw [(low2 46 (by decide) (by decide)).2]; exact h46) (by rw [(low2 46 (by decide) (by decide)).2]; exact (c1.mono hT gv2).2) (by rw [(low2 47 (by decide) (by decide)).2]; exact (c3.mono hT gv2).2) ehyp hBz2 ?_
              rw [List.drop_zero]
              exact hz1 hz
            intro _ _ y5 ey5 _
            rw [(low 50 (by decide) (by decide)).2] at ey5
            refine ⟨fun hpz => ?_, fun hpn => ?_⟩
            · refine begin' p (s.1 - 1, s.2) gvp ip p104 p109 p92 hBp (fun _ => ?_) (fun z => absurd p61 z)
              rw [hR2]
              unfold Sp.ruleGoes
              show Sp.bd (Sp.bd (if decide (v.2.1 50 (n : Int) ≠ 0) = true then _ else Sp.ret true) _) _ _ = _
              rw [if_neg (by rw [decide_eq_false (not_not_intro (ey5.symm.trans hpz))]; decide)]
              rfl
            · have hperm : decide (v.2.1 50 (n : Int) ≠ 0) = true := decide_eq_true (by rw [← ey5]; exact hpn)
              have hR3 : R = Sp.bd (Sp.bd (Sp.fill (Ob.lkD l) (ob v (v.2.1 47 (n : Int)))) (fun x => if Ob.smaller x (ob v k) then Sp.bd (Sp.rwHyps (fun h => Sp.rw E d (cxL v0) h true) (Ob.lkD l) (hypL v (n : Int))) (fun b => if b then Sp.bd (Sp.fill (Ob.lkD l) (ob v (v.2.1 47 (n : Int)))) (fun x => Sp.rw E d (cxL v0) x (decide (tr ≠ 0))) else Sp.rwRules E (Sp.rw E d (cxL v0)) (ob v k) (decide (tr ≠ 0)) (E.thms.take n).reverse) else Sp.rwRules E (Sp.rw E d (cxL v0)) (ob v k) (decide (tr ≠ 0)) (E.thms.take n).reverse)) (fun y => Sp.ret (Sp.fin (decide (tr ≠ 0)) y)) (s.1 - 1, s.2) := by
                rw [hR2]
                unfold Sp.ruleGoes
                show Sp.bd (Sp.bd (if decide (v.2.1 50 (n : Int) ≠ 0) = true then _ else Sp.ret true) _) _ _ = _
                rw [if_pos hperm]
                show Sp.bd (Sp.bd (Sp.bd (Sp.fill (Ob.lkD l) (ob v (v.2.1 47 (n : Int)))) (fun x => Sp.ret (Ob.smaller x (ob v k)))) _) _ _ = _
                rw [bd_assoc (Sp.fill (Ob.lkD l) (ob v (v.2.1 47 (n : Int))))]
                rfl
              clear hR2
              intro _ _ y6 ey6 _
              rw [(low 47 (by decide) (by decide)).2] at ey6
              rw [ey6]
              obtain ⟨nrp, erp⟩ := c3.mono hT gvp
              refine p_fill ip.2.1.1.1 ip.2.1.1.2.1 pP (by rw [ip.2.1.2.1]; exact ip.2.2.2.2.2.2.2.2.2) p61 nrp (σ := Ob.lkD l) (fun x hx => sig x (c5 x (by rw [← erp]; exact hx))) (s.1 - 1, s.2) (fun x q hG nx hm => ?_)
              rw [erp] at hm
              have iq := ip.gm hG
              obtain ⟨nkp, ekp⟩ := nk.mono hT gvp
              obtain ⟨nkq, ekq⟩ := nkp.mono gvp.1 hG.1
              refine p_isSmaller hG.1.1 hG.1.2.1 nx.1 nx.2.1 nkq.1 nkq.2.1 (fun r7 y gy y64 hr7 => ?_)
              rw [ekq, ekp] at hr7
              have gyJ := gy.mono f7S_J
              have ny : ∀ q', 66 ≤ q' → y.1 q' = q.1 q' ∧ y.2.1 q' = q.2.1 q' := fun q' hq => gy.2.2.2.2 q' (by unfold f7S f7T f7L; simp only [Bool.or_eq_false_iff, decide_eq_false_iff_not]; omega)
              have iy := iq.hi gyJ (ny 71 (by decide)).1 (fun q' hq => ny q' (by omega)) (by rw [y64]; exact iq.2.2.2.1.symm) (gy.2.2.2.2 60 (by decide)).1
              have y61 : y.1 61 = q.1 61 := (gy.2.2.2.2 61 (by decide)).1
              have y104 : y.1 104 = v0.1 104 := by rw [(ny 104 (by decide)).1, hG.n 104 (by decide)]; exact p104
              have y109 : y.1 109 = v0.1 109 := by rw [(ny 109 (by decide)).1, hG.n 109 (by decide)]; exact p109
              have y92 : y.2.1 92 (v0.1 102) = k := by rw [(ny 92 (by decide)).2, (hG.1.2.2.2.2 92 (by decide)).2]; exact p92
              have gvy : GZ f7J v y := (gvp.tr (hG.1.mono f7M_J)).tr gyJ
              have bEy : BdE (v0.1 102) p y := ((hG.rk (v0.1 102 + 1) 0 0).bd).tr ((RK_hi (c := 0) (r := 0) gyJ (ny 71 (by decide)).1 (fun q' hq => ny q' (by omega)) (v0.1 102 + 1)).bd)
              have hBy := hBp.keep gvp.1 gvp.2.1 bEy
              obtain ⟨nky, eky⟩ := nk.mono hT gvy
              rcases hm with ⟨s1, em, es1, h0⟩ | ⟨s1, em, es1, h0⟩
              · rw [bd_ok2 em] at hR3
                have iy1 := iy.st es1
                refine ⟨fun hz _ => ?_, fun hz => begin' y s1 gvy iy1 y104 y109 y92 hBy (fun _ => ?_) (fun z => absurd h0 (by rw [← y61]; exact z))⟩
                · rw [show (n : Int) + -1 = (n : Int) - 1 by omega]
                  refine hC v0 y R tr s1 k hO iy1 hd y104 y109 y92 nky (by rw [eky]; exact hc) (fun _ => ?_) (fun z => absurd h0 (by rw [← y61]; exact z))
                  have hsm : Ob.smaller (ob q x) (ob v k) = false := hr7.f hz
                  rw [hR3, hsm, eky]
                  rfl
                · have hsm : Ob.smaller (ob q x) (ob v k) = true := hr7.t hz
                  rw [hR3, hsm]
                  rfl
              · have hbad : R = .error () s1 := by rw [hR3, bd_err2 em]
                have iy1 := iy.st es1
                refine ⟨fun hz _ => ?_, fun hz => begin' y s1 gvy iy1 y104 y109 y92 hBy (fun z => absurd z (by rw [y61]; exact h0)) (fun _ => hbad)⟩
                rw [show (n : Int) + -1 = (n : Int) - 1 by omega]
                exact hC v0 y R tr s1 k hO iy1 hd y104 y109 y92 nky (by rw [eky]; exact hc) (fun z => absurd z (by rw [y61]; exact h0)) (fun _ => hbad)
          · refine p_fail hTw hUw (fun z hz hzn hz2 hz61 => fun _ => ⟨fun q => absurd rfl q, fun _ => ?_⟩)
            have hs : s.1 = 0 := by have := hI.2.2.2.2.1; unfold StL at this; have := Decidable.not_not.mp hst; omega
            refine hO.bad (iw.gm hz) ?_ (by rw [hz61, wn, if_neg (not_not_intro h61)]; decide)
            rw [hR, bd_err2 (show Sp.tick s = .error () s from if_pos hs)]
    intro _ _ x93 ex93 _
    rw [hI.2.2.2.2.2.1] at ex93
    rw [ex93]
    refine ⟨fun z => main (by rw [decide_eq_true z]; rfl), fun z => ?_⟩
    intro _ _ x51 ex51 _
    refine ⟨fun y _ => skip (by rw [hcn, if_neg (by rw [decide_eq_false z, decide_eq_true (show v.2.1 51 (n : Int) ≠ 0 by rw [← ex51]; exact y)]; simp)]), fun y => main (by rw [decide_eq_false (show ¬ v.2.1 51 (n : Int) ≠ 0 by rw [← ex51]; exact y)]; simp)⟩
