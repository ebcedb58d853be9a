-- deps: 481
theorem pt_len [DecidableEq Ob] : ∀ (m : Bool) (o : Ob), ((Ob.ptM m o).length : Int) = Ob.szM m o
  | true, .op a b => by
    have h1 := pt_len false a
    have h2 := pt_len true b
    rw [show Ob.ptM true (.op a b) = _ from pt_row a b, List.length_append]
    show _ = Ob.szM false a + Ob.szM true b
    omega
  | true, .var x => rfl
  | false, .op a b => by
    have h2 := pt_len true b
    rw [show Ob.ptM false (.op a b) = _ from pt_pr a b]
    show _ = if a = Ob.quote then (1 : Int) else 1 + Ob.szM true b
    by_cases c : a = Ob.quote
    · rw [if_pos c, if_pos c]; rfl
    · rw [if_neg c, if_neg c, List.length_cons]; omega
  | false, .var x => rfl
theorem pigeon [DecidableEq Ob] : ∀ (n : Nat) (L : List Ob) (f : Nat → Ob), (∀ i, i < n → f i ∈ L) → (∀ i j, i < j → j < n → f i ≠ f j) → n ≤ L.length
  | 0, _, _, _, _ => by omega
  | n + 1, L, f, h1, h2 => by
    have hx := h1 n (by omega)
    have hlt : (L.filter (fun y => decide (y ≠ f n))).length < L.length := List.length_filter_lt_length_iff_exists.mpr ⟨f n, hx, by simp⟩
    have := pigeon n (L.filter (fun y => decide (y ≠ f n))) f (fun i hi => List.mem_filter.mpr ⟨h1 i (by omega), decide_eq_true (h2 i n (by omega) (by omega))⟩) (fun i j hi hj => h2 i j hi (by omega))
    omega
theorem bd_many [DecidableEq Ob] {v : iST} {E : Sp.Env} {k only : Int} {p : Ob} (hT : TI v) (hU : TU v) (h : BdOk v E k only p) (hs : p.sz ≤ 120) : v.2.1 107 k ≤ 120 := by
  obtain ⟨b0, b1, b2, _⟩ := h
  have := pigeon (v.2.1 107 k).toNat (Ob.ptM false p) (fun i => ob v (v.2.1 105 (130 * k + (i : Int)))) (fun i hi => (b1 (i : Int) (by omega) (by omega)).2.1.1) (fun i j hi hj e => by
    have x := (b1 (i : Int) (by omega) (by omega)).1
    have y := (b1 (j : Int) (by omega) (by omega)).1
    exact b2 i j (by omega) (by omega) (by omega) ((hT.inj hU x.1 x.2.1 y.1 y.2.1).mp e))
  have e : ((Ob.ptM false p).length : Int) = p.sz := pt_len false p
  omega
theorem bd_assoc [DecidableEq Ob] {ε σ α β γ : Type} (x : σ → EStateM.Result ε σ α) (f : α → σ → EStateM.Result ε σ β) (g : β → σ → EStateM.Result ε σ γ) : Sp.bd (Sp.bd x f) g = Sp.bd x (fun a => Sp.bd (f a) g) := by
  funext s
  unfold Sp.bd
  cases x s <;> rfl
/-- bindings below k + 1 are as they were -/
def BdE [DecidableEq Ob] (k : Int) (v w : iST) : Prop := GZ f7J v w ∧ (∀ i, i < 130 * (k + 1) → w.2.1 105 i = v.2.1 105 i ∧ w.2.1 106 i = v.2.1 106 i) ∧ w.2.1 107 k = v.2.1 107 k
theorem BdE.tr [DecidableEq Ob] {k : Int} {u v w : iST} (h : BdE k u v) (g : BdE k v w) : BdE k u w := ⟨h.1.tr g.1, fun i hi => ⟨(g.2.1 i hi).1.trans (h.2.1 i hi).1, (g.2.1 i hi).2.trans (h.2.1 i hi).2⟩, g.2.2.trans h.2.2⟩
theorem RK.bd [DecidableEq Ob] {k r c : Int} {v w : iST} (h : RK (k + 1) r c v w) : BdE k v w := ⟨h.1, fun i hi => h.2.2.2.2.1 i hi, h.2.2.2.2.2.1 k (by omega)⟩
theorem Bd_keep [DecidableEq Ob] {v w : iST} {E : Sp.Env} {k only : Int} {p : Ob} (hT : TI v) (hK : BdE k v w) (h : BdOk v E k only p) (hm : v.2.1 107 k ≤ 120) : BdOk w E k only p ∧ (∀ s, AgB v k s → AgB w k s) ∧ ∀ x, Ky v k x → Ky w k x := by
  obtain ⟨b0, b1, b2, b3⟩ := h
  have e107 := hK.2.2
  have e5 : ∀ i, 0 ≤ i → i < v.2.1 107 k → w.2.1 105 (130 * k + i) = v.2.1 105 (130 * k + i) ∧ w.2.1 106 (130 * k + i) = v.2.1 106 (130 * k + i) := fun i i0 i1 => hK.2.1 _ (by omega)
  refine ⟨⟨by rw [e107]; exact b0, fun i i0 i1 => ?_, fun i j i0 i1 i2 => ?_, fun ho i j i0 i1 i2 => ?_⟩, fun s hs i i0 i1 => ?_, fun x hx => ?_⟩
  · rw [e107] at i1
    obtain ⟨p1, p2, p3, p4⟩ := b1 i i0 i1
    rw [(e5 i i0 i1).1, (e5 i i0 i1).2, (p1.mono hT hK.1).2, (p3.mono hT hK.1).2]
    exact ⟨(p1.mono hT hK.1).1, p2, (p3.mono hT hK.1).1, p4⟩
  · rw [e107] at i2
    rw [(e5 i i0 (by omega)).1, (e5 j (by omega) i2).1]
    exact b2 i j i0 i1 i2
  · rw [e107] at i2
    rw [(e5 i i0 (by omega)).2, (e5 j (by omega) i2).2]
    exact b3 ho i j i0 i1 i2
  · rw [e107] at i1
    obtain ⟨p1, p2, p3, p4⟩ := b1 i i0 i1
    rw [(e5 i i0 i1).1, (e5 i i0 i1).2, (p1.mono hT hK.1).2, (p3.mono hT hK.1).2]
    exact hs i i0 i1
  · obtain ⟨i, i0, i1, i2⟩ := hx
    obtain ⟨p1, p2, p3, p4⟩ := b1 i i0 i1
    exact ⟨i, i0, by rw [e107]; exact i1, by rw [(e5 i i0 i1).1, (p1.mono hT hK.1).2]; exact i2⟩
/-- the rules from here on are tried -/
def TryG [DecidableEq Ob] (u0 : iST) (E : Sp.Env) (Q : Int → iST → Prop) (d n : Nat) : Prop := ∀ (v0 v : iST) (R : EStateM.Result Unit Sp.Wk Ob) (tr : Int) (s : Sp.Wk) (k : Int), Owe u0 E Q v0 R → InJ u0 E v0 v tr s → v0.1 102 + 1 + (d : Int) = 60 → v.1 104 = v0.1 104 → v.1 109 = v0.1 109 → v.2.1 92 (v0.1 102) = k → Nd v E k → (ob v k).isCall = true →
  (v.1 61 = 0 → R = Sp.bd (Sp.rwRules E (Sp.rw E d (cxL v0)) (ob v k) (decide (tr ≠ 0)) (E.thms.take n).reverse) (fun y => Sp.ret (Sp.fin (decide (tr ≠ 0)) y)) s) → (v.1 61 ≠ 0 → R = .error () s) → pw_tryRules_10 (fun w => pw_rewritten_21 Q w) (v0.1 102) k ((n : Int) - 1) v
/-- the bindings of a job -/
def BdS [DecidableEq Ob] (v : iST) (E : Sp.Env) (j : Int) (lhs : Ob) (l : List (Ob × Ob)) : Prop := BdOk v E j 0 lhs ∧ AgB v j (Ob.lkD l) ∧ (∀ x, vr false lhs x → Ky v j x) ∧ lhs.sz ≤ 120
theorem BdS.keep [DecidableEq Ob] {v w : iST} {E : Sp.Env} {j : Int} {lhs : Ob} {l : List (Ob × Ob)} (h : BdS v E j lhs l) (hT : TI v) (hU : TU v) (hK : BdE j v w) : BdS w E j lhs l := by
  obtain ⟨h1, h2, h3, h4⟩ := h
  obtain ⟨g1, g2, g3⟩ := Bd_keep hT hK h1 (bd_many hT hU h1 h4)
  exact ⟨g1, g2 _ h2, fun x hx => g3 x (h3 x hx), h4⟩
theorem BdS.wt [DecidableEq Ob] {v : iST} {E : Sp.Env} {j : Int} {lhs : Ob} {l : List (Ob × Ob)} (h : BdS v E j lhs l) {x : Ob} (hx : vr false lhs x) : Ob.wt (Sp.arOf E) (Ob.lkD l x) := by
  obtain ⟨i, i0, i1, i2⟩ := h.2.2.1 x hx
  have := h.2.1 i i0 i1
  rw [i2] at this
  rw [this]
  exact (h.1.2.1 i i0 i1).2.2.1.2.2.2
/-- the next of the hypotheses -/
theorem rw_hyp [DecidableEq Ob] {u0 : iST} {E : Sp.Env} {Q : Int → iST → Prop} {d n : Nat} (hT0 : TI u0) (hE : EnvS u0 E) (ih : RwG u0 E Q d) (hC : TryG u0 E Q d n) {v0 : iST} {R : EStateM.Result Unit Sp.Wk Ob} {tr : Int} (hO : Owe u0 E Q v0 R) (hd : v0.1 102 + 1 + (d : Int) = 60) {k : Int} {o : Ob} {l : List (Ob × Ob)} {hyps : List Ob} {lhs rhs : Ob} (hc : o.isCall = true) : ∀ (m : Nat) (v : iST) (s : Sp.Wk) (i : Nat), InJ u0 E v0 v tr s → v.1 61 = 0 → v.1 104 = v0.1 104 → v.1 109 = v0.1 109 → v.2.1 92 (v0.1 102) = k → Nd v E k → ob v k = o → v.2.1 100 (v0.1 102) = (n : Int) → v.2.1 101 (v0.1 102) = (i : Int) → i + m = hyps.length → (n : Int) < v.1 42 → v.2.1 46 (n : Int) ≠ -1 → ob v (v.2.1 46 (n : Int)) = lhs → ob v (v.2.1 47 (n : Int)) = rhs → hypL v (n : Int) = hyps → BdS v E (v0.1 102) lhs l →
    R = Sp.bd (Sp.bd (Sp.rwHyps (fun h => Sp.rw E d (cxL v0) h true) (Ob.lkD l) (hyps.drop i)) (fun b => if b then Sp.bd (Sp.fill (Ob.lkD l) rhs) (fun x => Sp.rw E d (cxL v0) x (decide (tr ≠ 0))) else Sp.rwRules E (Sp.rw E d (cxL v0)) o (decide (tr ≠ 0)) (E.thms.take n).reverse)) (fun y => Sp.ret (Sp.fin (decide (tr ≠ 0)) y)) s →
    pw_nextHypothesis (v0.1 102) (fun w => pw_rewritten_21 Q w) v
  | m, v, s, i, hI, h61, h104, h109, h92, nk, ek, h100, h101, him, hn, h46, elhs, erhs, ehyps, hB, hR => by
    have hT := hI.2.1.1.1
    have hU := hI.2.1.1.2.1
    have hEv := hI.env hT0 hE
    obtain ⟨_, _, hthm⟩ := hEv.2.2.2.2.2.1 (n : Int) (by omega) hn
    obtain ⟨c1, c2, c3, c4, c5, c6⟩ := hthm h46
    rw [elhs] at c5 c6
    rw [erhs] at c5
    have hmany : (v.2.1 48 (n : Int)).toNat = hyps.length := by rw [← ehyps]; unfold hypL; simp
    have hget : ∀ i' : Nat, i' < hyps.length → hyps[i']? = some (ob v (v.2.1 49 (120 * (n : Int) + (i' : Int)))) := by
      intro i' hi
      rw [← ehyps]
      unfold hypL
      rw [List.getElem?_map, List.getElem?_range (by omega)]
      rfl
    have h71 : 0 ≤ v.1 71 := by rw [hI.2.1.2.1]; exact hI.2.2.2.2.2.2.2.2.2
    unfold pw_nextHypothesis
    intro _ _ rr err _
    rw [h100] at err
    rw [err]
    refine p_takePairs hT hU hB.1 (fun w gw wP wl wN => ?_)
    have r75 : ∀ q, 75 ≤ q → w.1 q = v.1 q ∧ w.2.1 q = v.2.1 q := fun q hq => gw.2.2.2.2 q (by unfold f7P; simp only [decide_eq_false_iff_not]; omega)
    have gwJ := gw.mono f7P_J
    have iw := hI.hi gwJ (gw.2.2.2.2 71 (by decide)).1 r75 (gw.2.2.2.2 64 (by decide)).1 (gw.2.2.2.2 60 (by decide)).1
    have sig : ∀ x, vr false lhs x → Ob.lkD (prs w) x = Ob.lkD l x ∧ Ob.wt (Sp.arOf E) (Ob.lkD l x) := fun x hx => ⟨wl _ hB.2.1 x (hB.2.2.1 x hx), hB.wt hx⟩
    have w61 : w.1 61 = 0 := (gw.2.2.2.2 61 (by decide)).1.trans h61
    have w71 : 0 ≤ w.1 71 := by rw [(gw.2.2.2.2 71 (by decide)).1]; exact h71
    have low : ∀ q, 43 ≤ q → q ≤ 53 → w.2.1 q = v.2.1 q := fun q h1 h2 => (gw.2.2.2.2 q (by unfold f7P; simp only [decide_eq_false_iff_not]; omega)).2
    intro _ _ y1 ey1 _ _ _ y2 ey2 _
    rw [(r75 101 (by decide)).2, h101] at ey1
    rw [low 48 (by decide) (by decide)] at ey2
    rw [ey1, ey2]
    refine ⟨fun hne => ?_, fun heq => ?_⟩
    · have hi : i < hyps.length := by omega
      obtain ⟨m', rfl⟩ : ∃ m', m = m' + 1 := ⟨m - 1, by omega⟩
      obtain ⟨nh, vh⟩ := c6 (i : Int) (by omega) (by omega)
      obtain ⟨nhw, ehw⟩ := nh.mono hT gwJ
      have hdrop : hyps.drop i = ob v (v.2.1 49 (120 * (n : Int) + (i : Int))) :: hyps.drop (i + 1) := by
        rw [List.drop_eq_getElem_cons hi]
        have := hget i hi
        rw [List.getElem?_eq_getElem hi] at this
        rw [Option.some.inj this]
      rw [hdrop] at hR
      have hR1 : R = Sp.bd (Sp.bd (Sp.fill (Ob.lkD l) (ob v (v.2.1 49 (120 * (n : Int) + (i : Int))))) (fun x => Sp.bd (Sp.bd (Sp.rw E d (cxL v0) x true) (fun z => if z = Ob.t then Sp.rwHyps (fun h => Sp.rw E d (cxL v0) h true) (Ob.lkD l) (hyps.drop (i + 1)) else Sp.ret false)) (fun b => if b then Sp.bd (Sp.fill (Ob.lkD l) rhs) (fun x => Sp.rw E d (cxL v0) x (decide (tr ≠ 0))) else Sp.rwRules E (Sp.rw E d (cxL v0)) o (decide (tr ≠ 0)) (E.thms.take n).reverse))) (fun y => Sp.ret (Sp.fin (decide (tr ≠ 0)) y)) s := by
        rw [hR, show Sp.rwHyps (fun h => Sp.rw E d (cxL v0) h true) (Ob.lkD l) (ob v (v.2.1 49 (120 * (n : Int) + (i : Int))) :: hyps.drop (i + 1)) = Sp.bd (Sp.fill (Ob.lkD l) (ob v (v.2.1 49 (120 * (n : Int) + (i : Int))))) (fun x => Sp.bd (Sp.rw E d (cxL v0) x true) (fun z => if z = Ob.t then Sp.rwHyps (fun h => Sp.rw E d (cxL v0) h true) (Ob.lkD l) (hyps.drop (i + 1)) else Sp.ret false)) from rfl, bd_assoc (Sp.fill (Ob.lkD l) (ob v (v.2.1 49 (120 * (n : Int) + (i : Int)))))]
      clear hR
      intro _ _ _ y3 ey3 _ _ _ _ y4 ey4 _
      rw [(r75 101 (by decide)).2, h101] at ey3
      rw [ey3, low 49 (by decide) (by decide)] at ey4
      rw [ey4]
      refine p_fill iw.2.1.1.1 iw.2.1.1.2.1 wP w71 w61 nhw (σ := Ob.lkD l) (fun x hx => sig x (vh x (by rw [← ehw]; exact hx))) s (fun x z hG nx hm => ?_)
      rw [ehw] at hm
      intro _ _ t et
      have iz := iw.gm hG
      have mrow : ∀ q, q ≠ 94 → t.2.1 q = z.2.1 q := fun q hq => by rw [et]; exact if_neg hq
      obtain ⟨it, kt, nt, mt⟩ := iz.row et (by decide)
      clear et
      have gt := (kt 0 0).1
      obtain ⟨nxt, ext⟩ := nx.mono hG.1.1 gt
      have t104 : t.1 104 = v0.1 104 := by rw [nt, hG.n 104 (by decide), (r75 104 (by decide)).1]; exact h104
      have t109 : t.1 109 = v0.1 109 := by rw [nt, hG.n 109 (by decide), (r75 109 (by decide)).1]; exact h109
      have t61 : t.1 61 = z.1 61 := by rw [nt]
      obtain ⟨cxt, cxet⟩ := it.cx hT0 t109
      rcases hm with ⟨s1, e1, es1, h0⟩ | ⟨s1, e1, es1, h0⟩
      · rw [bd_ok2 e1] at hR1
        refine rw_sub ih hO (it.st es1) hd (by omega) (by omega) cxt nxt (fun z => absurd h0 (by rw [← t61]; exact z)) (fun _ s' h => ?_) (fun _ w2 s' r hev kw2 iw2 w261 w2104 w2109 w2110 nr => ?_)
        · rw [cxet, ext] at h
          rw [hR1]
          exact bd_err2 (bind_err h)
        · rw [cxet, ext] at hev
          have hR2 : R = Sp.bd (Sp.bd (if ob w2 r = Ob.t then Sp.rwHyps (fun h => Sp.rw E d (cxL v0) h true) (Ob.lkD l) (hyps.drop (i + 1)) else Sp.ret false) (fun b => if b then Sp.bd (Sp.fill (Ob.lkD l) rhs) (fun x => Sp.rw E d (cxL v0) x (decide (tr ≠ 0))) else Sp.rwRules E (Sp.rw E d (cxL v0)) o (decide (tr ≠ 0)) (E.thms.take n).reverse)) (fun y => Sp.ret (Sp.fin (decide (tr ≠ 0)) y)) s' := by
            rw [hR1]
            unfold Sp.bd
            rw [show Sp.rw E d (cxL v0) (ob z x) true s1 = .ok (ob w2 r) s' from hev]
          clear hR1
          have rows : ∀ q, 92 ≤ q → q ≤ 101 → q ≠ 94 → w2.2.1 q (v0.1 102) = v.2.1 q (v0.1 102) := fun q h1 h2 h3 => by
            rw [kw2.2.2.1 q _ h1 h2 (by omega), mt, if_neg h3, (hG.1.2.2.2.2 q (f7M_92 q h1 (by omega))).2, (r75 q (by omega)).2]
          have ert : ∀ q, q ≠ 94 → t.2.1 q = z.2.1 q := mrow
          have bvw : BdE (v0.1 102) v w2 := by
            have a : BdE (v0.1 102) v w := (RK_hi (c := 0) (r := 0) gwJ (gw.2.2.2.2 71 (by decide)).1 r75 (v0.1 102 + 1)).bd
            have b : BdE (v0.1 102) w z := (hG.rk (v0.1 102 + 1) 0 0).bd
            have c : BdE (v0.1 102) z t := ⟨gt, fun i' _ => by rw [ert 105 (by decide), ert 106 (by decide)]; exact ⟨rfl, rfl⟩, by rw [ert 107 (by decide)]⟩
            exact ((a.tr b).tr c).tr kw2.bd
          have hB2 := hB.keep hT hU bvw
          have gv2 := bvw.1
          obtain ⟨nk2, ek2⟩ := nk.mono hT gv2
          have low2 : ∀ q, 42 ≤ q → q ≤ 53 → w2.1 q = v.1 q ∧ w2.2.1 q = v.2.1 q := fun q h1 h2 => gv2.2.2.2.2 q (f7J_mid q (by omega) (by omega))
          obtain ⟨c12, ec12⟩ := c1.mono hT gv2
          obtain ⟨c32, ec32⟩ := c3.mono hT gv2
          have z1 := kat iw2.2.1.1.1 iw2.2.1.1.2.1 1 (by decide) (by decide) rfl nr.1 nr.2.1
          unfold pw_takeResult
          intro _ t5 et5 _ _ p ep _
          obtain ⟨i5, k5, q5, n5⟩ := iw2.num et5 (by decide)
          have hp : p = 31 := by rw [ep, q5, kw2.2.2.1 94 _ (by decide) (by decide) (by omega), mt, if_pos rfl]
          clear et5 ep
          subst hp
          refine ⟨fun n => absurd n (by decide), fun _ => ⟨fun n => absurd n (by decide), fun _ => ⟨fun n => absurd n (by decide), fun _ => ⟨fun n => absurd n (by decide), fun _ => ⟨fun n => absurd n (by decide), fun _ => ⟨fun _ => ?_, fun n => absurd rfl n⟩⟩⟩⟩⟩⟩
          have g5 := (k5 0 0 0).1
          obtain ⟨nk5, ek5⟩ := nk2.mono iw2.2.1.1.1 g5
          have nn5 : ∀ q, q ≠ 111 → t5.1 q = w2.1 q := fun q h => by rw [n5, if_neg h]
          intro y5 ey5 _
          rw [nn5 110 (by decide), w2110] at ey5
          rw [ey5]
          have f104 : t5.1 104 = v0.1 104 := by rw [nn5 104 (by decide), w2104]; exact t104
          have f109 : t5.1 109 = v0.1 109 := by rw [nn5 109 (by decide), w2109]; exact t109
          have f61 : t5.1 61 = 0 := by rw [nn5 61 (by decide)]; exact w261
          refine ⟨fun hne1 => ?_, fun heq1 => ?_⟩
          · rw [if_neg (fun z => hne1 (z1.mpr z))] at hR2
            intro _ _ y6 ey6 _ _
            have h6 : y6 = (n : Int) := by rw [ey6, q5, rows 100 (by decide) (by decide) (by decide)]; exact h100
            rw [h6]
            unfold pw_tryRules
            intro _ _ y7 ey7 _
            have h7 : y7 = k := by rw [ey7, q5, rows 92 (by decide) (by decide) (by decide)]; exact h92
            rw [h7]
            refine hC v0 t5 R tr s' k hO i5 hd f104 f109 (by rw [q5, rows 92 (by decide) (by decide) (by decide)]; exact h92) nk5 (by rw [ek5, ek2, ek]; exact hc) (fun _ => ?_) (fun z => absurd f61 z)
            rw [hR2, ek5, ek2, ek]
            rfl
          · rw [if_pos (z1.mp (Decidable.not_not.mp heq1))] at hR2
            intro _ _ y6 ey6 _ _ _ _ t6 et6
            have h6 : y6 = (i : Int) := by rw [ey6, q5, rows 101 (by decide) (by decide) (by decide)]; exact h101
            have hbe6 : BdE (v0.1 102) t5 t6 := by
              rw [et6]
              have k6 : RK (v0.1 102) 0 0 t5 (iA t5 101 (v0.1 102) (y6 + 1)) := RK_A g5.1 g5.2.1 (by decide) (by decide) (fun _ _ => Int.le_refl _) (fun z => by cases z) (fun z => by omega) (fun z => by cases z) (fun z => by cases z)
              exact ⟨k6.1, fun _ _ => ⟨rfl, rfl⟩, rfl⟩
            obtain ⟨i6, k6, n6, m6⟩ := i5.row et6 (by decide)
            clear et6
            have hbe5 : BdE (v0.1 102) w2 t5 := (k5 (v0.1 102 + 1) 0 0).bd
            have bE := hbe5.tr hbe6
            have hT2 := iw2.2.1.1.1
            obtain ⟨nk6, ek6⟩ := nk2.mono hT2 bE.1
            obtain ⟨c16, ec16⟩ := c12.mono hT2 bE.1
            obtain ⟨c36, ec36⟩ := c32.mono hT2 bE.1
            have low6 : ∀ q, 42 ≤ q → q ≤ 53 → t6.1 q = v.1 q ∧ t6.2.1 q = v.2.1 q := fun q h1 h2 => (gv2.tr bE.1).2.2.2.2 q (f7J_mid q (by omega) (by omega))
            have rows6 : ∀ q, 92 ≤ q → q ≤ 101 → q ≠ 94 → q ≠ 101 → t6.2.1 q (v0.1 102) = v.2.1 q (v0.1 102) := fun q h1 h2 h3 h4 => by rw [m6, if_neg h4, q5, rows q h1 h2 h3]
            have e46 : ob t6 (v.2.1 46 (n : Int)) = ob v (v.2.1 46 (n : Int)) := (c1.mono hT (gv2.tr bE.1)).2
            have e47 : ob t6 (v.2.1 47 (n : Int)) = ob v (v.2.1 47 (n : Int)) := (c3.mono hT (gv2.tr bE.1)).2
            have ehyp6 : hypL t6 (n : Int) = hyps := by
              rw [← ehyps]
              unfold hypL
              rw [(low6 48 (by decide) (by decide)).2, (low6 49 (by decide) (by decide)).2]
              refine List.map_congr_left (fun q hq => ?_)
              have hq := List.mem_range.mp hq
              exact ((c6 (q : Int) (by omega) (by omega)).1.mono hT (gv2.tr bE.1)).2
            refine rw_hyp hT0 hE ih hC hO hd hc m' t6 s' (i + 1) i6 (by rw [n6]; exact f61) (by rw [n6]; exact f104) (by rw [n6]; exact f109) (by rw [rows6 92 (by decide) (by decide) (by decide) (by decide)]; exact h92) nk6 (by rw [ek6, ek2, ek]) (by rw [rows6 100 (by decide) (by decide) (by decide) (by decide)]; exact h100) (by rw [m6, if_pos rfl, h6]; rfl) (by omega) (by rw [(low6 42 (by decide) (by decide)).1]; exact hn) (by rw [(low6 46 (by decide) (by decide)).2]; exact h46) (by rw [(low6 46 (by decide) (by decide)).2, e46]; exact elhs) (by rw [(low6 47 (by decide) (by decide)).2, e47]; exact erhs) ehyp6 (hB2.keep hT2 iw2.2.1.1.2.1 bE) hR2
      · exact rw_sub ih hO (it.st es1) hd (by omega) (by omega) cxt nxt (fun _ => by rw [hR1, bd_err2 e1]) (fun z => absurd z (by rw [t61]; exact h0)) (fun z => absurd z (by rw [t61]; exact h0))
    · have hin : i = hyps.length := by have := Decidable.not_not.mp heq; omega
      rw [hin, List.drop_length] at hR
      have hR1 : R = Sp.bd (Sp.bd (Sp.fill (Ob.lkD l) rhs) (fun x => Sp.rw E d (cxL v0) x (decide (tr ≠ 0)))) (fun y => Sp.ret (Sp.fin (decide (tr ≠ 0)) y)) s := by rw [hR]; rfl
      obtain ⟨nrw, erw⟩ := c3.mono hT gwJ
      intro _ _ y3 ey3 _
      rw [low 47 (by decide) (by decide)] at ey3
      rw [ey3]
      refine p_fill iw.2.1.1.1 iw.2.1.1.2.1 wP w71 w61 nrw (σ := Ob.lkD l) (fun x hx => sig x (c5 x (by rw [← erhs, ← erw]; exact hx))) s (fun x z hG nx hm => ?_)
      rw [erw, erhs] at hm
      exact rw_passMK hT0 ih hO iw hd (by rw [(r75 104 (by decide)).1]; exact h104) (by rw [(r75 109 (by decide)).1]; exact h109) hG nx hm hR1
