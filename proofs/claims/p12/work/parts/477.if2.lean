-- deps: 476
theorem bd_ok2 [DecidableEq Ob] {ε σ α β γ : Type} {x : σ → EStateM.Result ε σ α} {f : α → σ → EStateM.Result ε σ β} {g : β → σ → EStateM.Result ε σ γ} {s s' : σ} {a : α} (h : x s = .ok a s') : Sp.bd (Sp.bd x f) g s = Sp.bd (f a) g s' := by
  unfold Sp.bd; rw [h]
theorem bd_err2 [DecidableEq Ob] {ε σ α β γ : Type} {x : σ → EStateM.Result ε σ α} {f : α → σ → EStateM.Result ε σ β} {g : β → σ → EStateM.Result ε σ γ} {s s' : σ} {e : ε} (h : x s = .error e s') : Sp.bd (Sp.bd x f) g s = .error e s' := by
  unfold Sp.bd; rw [h]
theorem rw_push [DecidableEq Ob] {u0 : iST} {E : Sp.Env} {v0 v : iST} {tr : Int} {s : Sp.Wk} (hI : InJ u0 E v0 v tr s) (cx : CxOk v E) (h109 : v0.1 109 ≤ v.1 109) {a : Int} (na : Nd v E a) {Q : iST → Prop}
    (hq : ∀ w, InJ u0 E v0 w tr s → (∀ j r, RK j r (v.1 109) v w) → w.1 109 = v.1 109 + 1 → (∀ n, n ≠ 109 → w.1 n = v.1 n) → (∀ n, n ≠ 108 → w.2.1 n = v.2.1 n) → CxOk w E → cxL w = cxL v ++ [ob v a] → Q w) : pw_push a Q v := by
  have hT := hI.2.1.1.1
  have hU := hI.2.1.1.2.1
  have c0 := cx.1
  unfold pw_push
  intro x ex _ _ _ w1 e1 y ey _ _ w2 e2
  subst ex
  have k1 : ∀ j r, RK j r (v.1 109) v w1 := fun j r => by rw [e1]; exact RK_A hT hU (by decide) (by decide) (fun _ z => absurd z (by decide)) (fun z => by cases z) (fun z => by omega) (fun z => by cases z) (fun _ => Int.le_refl _)
  have k2 : ∀ j r, RK j r (v.1 109) w1 w2 := fun j r => by rw [e2]; exact RK_I (k1 j r).1.1 (k1 j r).1.2.1 (by decide) (by decide) (by decide) _ _ _
  have kk : ∀ j r, RK j r (v.1 109) v w2 := fun j r => (k1 j r).tr (k2 j r) (Int.le_refl _) (Int.le_refl _) (Int.le_refl _)
  have n1 : ∀ n, n ≠ 109 → w2.1 n = v.1 n := fun n hn => by rw [e2, e1]; exact if_neg hn
  have n2 : ∀ n, n ≠ 108 → w2.2.1 n = v.2.1 n := fun n hn => by rw [e2, e1]; exact if_neg hn
  have m109 : w2.1 109 = v.1 109 + 1 := by rw [e2, ey, e1]; rfl
  have m108 : ∀ i, w2.2.1 108 i = if i = v.1 109 then a else v.2.1 108 i := fun i => by rw [e2, e1]; rfl
  clear e1 e2 ey
  have g := (kk 0 0).1
  refine hq w2 (hI.keep (kk (v0.1 102) (v0.1 104)) (Int.le_refl _) (Int.le_refl _) h109 (n1 102 (by decide)) (by rw [n1 64 (by decide)]; exact hI.2.2.2.1) (by unfold StL; rw [n1 60 (by decide), n1 59 (by decide)]; exact hI.2.2.2.2.1) (by rw [n2 93 (by decide)]; exact hI.2.2.2.2.2.1)) kk m109 n1 n2 ⟨by omega, fun i i0 i1 => ?_⟩ ?_
  · rw [m108]
    by_cases c : i = v.1 109
    · rw [if_pos c]; exact (na.mono hT g).1
    · rw [if_neg c]; exact ((cx.2 i i0 (by omega)).mono hT g).1
  · unfold cxL
    rw [m109, show (v.1 109 + 1).toNat = (v.1 109).toNat + 1 by omega, List.range_succ, List.map_append]
    refine congr (congrArg _ (List.map_congr_left (fun i hi => ?_))) ?_
    · have hi := List.mem_range.mp hi
      rw [m108, if_neg (by omega), ((cx.2 (i : Int) (by omega) (by omega)).mono hT g).2]
    · show [ob w2 (w2.2.1 108 ((v.1 109).toNat : Int))] = [ob v a]
      rw [m108, if_pos (by omega), (na.mono hT g).2]
/-- the second branch has come -/
theorem rw_ph4 [DecidableEq Ob] {u0 : iST} {E : Sp.Env} {Q : Int → iST → Prop} {v0 w : iST} {R : EStateM.Result Unit Sp.Wk Ob} {tr : Int} {s : Sp.Wk} (hO : Owe u0 E Q v0 R) (hI : InJ u0 E v0 w tr s) (h61 : w.1 61 = 0) (h104 : w.1 104 = v0.1 104) (h109 : w.1 109 = v0.1 109 + 1) {a b r : Int} (h94 : w.2.1 94 (v0.1 102) = 4) (ha : w.2.1 95 (v0.1 102) = a) (hb : w.2.1 96 (v0.1 102) = b) (h110 : w.1 110 = r) (na : Nd w E a) (nb : Nd w E b) (nr : Nd w E r)
    (hR : R = Sp.bd (Sp.rwJoin (decide (tr ≠ 0)) (ob w a) (ob w b) (ob w r)) (fun y => Sp.ret (Sp.fin (decide (tr ≠ 0)) y)) s) : pw_takeResult (v0.1 102) (fun w => pw_rewritten_21 Q w) w := by
  have hT := hI.2.1.1.1
  unfold pw_takeResult
  intro _ t et _ _ p ep _
  obtain ⟨it, kt, t2, tn⟩ := hI.num et (by decide)
  have hp : p = 4 := by rw [ep, t2]; exact h94
  clear et ep
  subst hp
  refine ⟨fun n => absurd n (by decide), fun _ => ⟨fun n => absurd n (by decide), fun _ => ⟨fun _ => ?_, fun n => absurd rfl n⟩⟩⟩
  intro x ex _ _ t' et' _ _ y1 ey1 _ _ _ y2 ey2 _ y3 ey3 _
  obtain ⟨it', kt', t2', tn'⟩ := it.num et' (by decide)
  have e1 : y1 = a := by rw [ey1, t2', t2]; exact ha
  have e2 : y2 = b := by rw [ey2, t2', t2]; exact hb
  have e3 : y3 = r := by rw [ey3, tn', if_neg (by decide), tn, if_neg (by decide)]; exact h110
  rw [e1, e2, e3]
  have g : GZ f7J w t' := (kt 0 0 0).1.tr (kt' 0 0 0).1
  obtain ⟨na', ea'⟩ := na.mono hT g
  obtain ⟨nb', eb'⟩ := nb.mono hT g
  obtain ⟨nr', er'⟩ := nr.mono hT g
  refine rw_join hO it' (by rw [tn', if_neg (by decide), tn, if_neg (by decide)]; exact h61) (by rw [tn', if_neg (by decide), tn, if_neg (by decide)]; exact h104) ?_ na' nb' nr' (by rw [ea', eb', er']; exact hR)
  rw [tn', if_pos rfl, ex, tn, if_neg (by decide)]
  omega
/-- the first branch has come -/
theorem rw_ph3 [DecidableEq Ob] {u0 : iST} {E : Sp.Env} {Q : Int → iST → Prop} {d : Nat} (hT0 : TI u0) (ih : RwG u0 E Q d) {v0 w : iST} {R : EStateM.Result Unit Sp.Wk Ob} {tr : Int} {s : Sp.Wk} (hO : Owe u0 E Q v0 R) (hI : InJ u0 E v0 w tr s) (hd : v0.1 102 + 1 + (d : Int) = 60) (h61 : w.1 61 = 0) (h104 : w.1 104 = v0.1 104) (h109 : w.1 109 = v0.1 109 + 1) {a c r : Int} (h94 : w.2.1 94 (v0.1 102) = 3) (ha : w.2.1 95 (v0.1 102) = a) (hc : w.2.1 97 (v0.1 102) = c) (h110 : w.1 110 = r) (na : Nd w E a) (nc : Nd w E c) (nr : Nd w E r)
    (hR : R = Sp.bd (Sp.bd (Sp.mkNot (ob w a)) fun nA => Sp.bd (Sp.pay 1) fun _ => Sp.bd (Sp.rw E d (cxL v0 ++ [nA]) (ob w c) (decide (tr ≠ 0))) fun x => Sp.rwJoin (decide (tr ≠ 0)) (ob w a) (ob w r) x) (fun y => Sp.ret (Sp.fin (decide (tr ≠ 0)) y)) s) : pw_takeResult (v0.1 102) (fun w => pw_rewritten_21 Q w) w := by
  have hT := hI.2.1.1.1
  unfold pw_takeResult
  intro _ t et _ _ p ep _
  obtain ⟨it, kt, t2, tn⟩ := hI.num et (by decide)
  have hp : p = 3 := by rw [ep, t2]; exact h94
  clear et ep
  subst hp
  refine ⟨fun n => absurd n (by decide), fun _ => ⟨fun _ => ?_, fun n => absurd rfl n⟩⟩
  intro x ex _ _ _ t1 et1 y ey _ _ t3 et3 _ _ z ez _
  have hx : x = r := by rw [ex, tn, if_neg (by decide)]; exact h110
  obtain ⟨i1, k1, n1, m1⟩ := it.row et1 (by decide)
  have hy : y = v0.1 109 + 1 := by rw [ey, n1, tn, if_neg (by decide)]; exact h109
  obtain ⟨i3, k3, n3, m3⟩ := i1.num et3 (by decide)
  have hz : z = a := by rw [ez, n3, m1, if_neg (by decide), t2]; exact ha
  clear et1 et3 ex ey ez
  rw [hz]
  have q : ∀ n, n ≠ 109 → n ≠ 111 → t3.1 n = w.1 n := fun n a b => by rw [m3, if_neg a, n1, tn, if_neg b]
  have q109 : t3.1 109 = v0.1 109 := by rw [m3, if_pos rfl, hy]; omega
  have g3 : GZ f7J w t3 := ((kt 0 0 0).1.tr (k1 0 0).1).tr (k3 0 0 0).1
  obtain ⟨na3, ea3⟩ := na.mono hT g3
  obtain ⟨nc3, ec3⟩ := nc.mono hT g3
  obtain ⟨nr3, er3⟩ := nr.mono hT g3
  have hT3 := g3.1
  have hU3 := g3.2.1
  have r3 : ∀ n, t3.2.1 n (v0.1 102) = if n = 96 then r else w.2.1 n (v0.1 102) := fun n => by rw [n3, m1, t2, hx]
  have h71 : 0 ≤ t3.1 71 := by rw [i3.2.1.2.1]; exact i3.2.2.2.2.2.2.2.2.2
  obtain ⟨cx3, cxe3⟩ := i3.cx hT0 q109
  refine p_notOf hT3 hU3 h71 na3.1 na3.2.1 na3.2.2.1 (fun h => by obtain ⟨x, e, _⟩ := Ob.wt_one na3.2.2.2 h not_q (arOf_not E); exact ⟨x, e⟩) (fun k t4 hG k0 k1' ek tk fk => ?_)
  have hm := MK_not (s := s) (q 61 (by decide) (by decide) |>.trans h61) ek fk
  rw [ea3] at hm
  have i4 := i3.gm hG
  have wneg : Ob.wt (Sp.arOf E) (ob t4 k) := by
    rw [ek]
    unfold Ob.neg
    split
    · next h => obtain ⟨x, e, wx⟩ := Ob.wt_one na3.2.2.2 h not_q (arOf_not E); rw [e]; exact wx
    · split
      · exact Ob.wt_leaf rfl
      · split
        · exact Ob.wt_leaf rfl
        · exact Ob.wt_mk (l := [ob t3 a]) not_q (Ob.sym_isSym _) (by rw [arOf_not]; rfl) (fun y hy => by rcases List.mem_singleton.mp hy with rfl; exact na3.2.2.2)
  have nk : Nd t4 E k := ⟨k0, k1', tk, wneg⟩
  have p109 : t4.1 109 = v0.1 109 := (hG.n 109 (by decide)).trans q109
  obtain ⟨cx4, cxe4⟩ := i4.cx hT0 p109
  refine rw_push i4 cx4 (by omega) nk (fun t5 i5 k5 t5109 n5 r5 cx5 cxe5 => ?_)
  intro _ _ t6 et6 _ _ y2 ey2 _ _ _ y3 ey3 _
  obtain ⟨i6, k6, n6, m6⟩ := i5.row et6 (by decide)
  clear et6
  have r6 : ∀ n, n ≠ 94 → n ≠ 96 → n ≠ 108 → 92 ≤ n → n ≤ 113 → t6.2.1 n (v0.1 102) = w.2.1 n (v0.1 102) := fun n a b c d e => by
    rw [m6, if_neg a, r5 n c, (hG.1.2.2.2.2 n (f7M_92 n d e)).2, r3, if_neg b]
  have h2 : y2 = c := by rw [ey2, r6 97 (by decide) (by decide) (by decide) (by decide) (by decide)]; exact hc
  have h3 : y3 = tr := by rw [ey3]; exact i6.2.2.2.2.2.1
  rw [h2, h3]
  have g36 : GZ f7J t3 t6 := (hG.1.mono f7M_J).tr ((k5 0 0).1.tr (k6 0 0).1)
  obtain ⟨nc6, ec6⟩ := nc3.mono hT3 g36
  have t61 : t6.1 61 = t4.1 61 := by rw [n6, n5 61 (by decide)]
  have ct : t6.1 109 = v0.1 109 + 1 := by rw [n6, t5109, p109]
  have t104 : t6.1 104 = v0.1 104 := by rw [n6, n5 104 (by decide), hG.n 104 (by decide), q 104 (by decide) (by decide)]; exact h104
  obtain ⟨cx6, cxe6⟩ := cx5.keep (k5 0 0).1.1 (k6 0 (t5.1 109)) (by rw [n6])
  have hcx : cxL t6 = cxL v0 ++ [ob t4 k] := by rw [cxe6, cxe5, cxe4]
  have i6' : ∀ {s'}, s'.1 = s.1 → InJ u0 E v0 t6 tr s' := fun e => i6.st e
  rcases hm with ⟨s1, e1, es1, h0⟩ | ⟨s1, e1, es1, h0⟩
  · have hR2 : R = Sp.bd (Sp.bd (Sp.rw E d (cxL t6) (ob t6 c) (decide (tr ≠ 0))) fun x => Sp.rwJoin (decide (tr ≠ 0)) (ob w a) (ob w r) x) (fun y => Sp.ret (Sp.fin (decide (tr ≠ 0)) y)) (s1.1, s1.2 + 1) := by
      rw [hR, bd_ok2 e1, hcx, ec6, ec3]
      rfl
    refine rw_sub (s := (s1.1, s1.2 + 1)) ih hO (i6' es1) hd (by omega) (by omega) cx6 nc6 (fun z => absurd h0 (by rw [← t61]; exact z)) (fun _ s' h => by rw [hR2, bd_err2 h]) (fun _ z s' x hev kz iz z61 z104 z109 z110 nx => ?_)
    rw [bd_ok2 hev] at hR2
    have gwz : GZ f7J w z := (g3.tr g36).tr kz.1
    obtain ⟨naz, eaz⟩ := na.mono hT gwz
    obtain ⟨nrz, erz⟩ := nr.mono hT gwz
    refine rw_ph4 hO iz z61 (by omega) (by omega) (a := a) (b := r) ?_ ?_ ?_ z110 naz nrz nx (by rw [eaz, erz]; exact hR2)
    · rw [kz.2.2.1 94 _ (by decide) (by decide) (by omega), m6, if_pos rfl]
    · rw [kz.2.2.1 95 _ (by decide) (by decide) (by omega), r6 95 (by decide) (by decide) (by decide) (by decide) (by decide)]; exact ha
    · rw [kz.2.2.1 96 _ (by decide) (by decide) (by omega), m6, if_neg (by decide), r5 96 (by decide), (hG.1.2.2.2.2 96 (by decide)).2, r3, if_pos rfl]
  · exact rw_sub (s := s1) ih hO (i6' es1) hd (by omega) (by omega) cx6 nc6 (fun _ => by rw [hR, bd_err2 e1]) (fun z => absurd z (by rw [t61]; exact h0)) (fun z => absurd z (by rw [t61]; exact h0))
