-- deps: 485
/-- the terms of a call that are rewritten -/
def RsL [DecidableEq Ob] (v : iST) (E : Sp.Env) (lo : Int) (done : List Ob) : Prop := v.1 104 = lo + (done.length : Int) ∧ ∀ i : Nat, i < done.length → Nd v E (v.2.1 103 (lo + (i : Int))) ∧ some (ob v (v.2.1 103 (lo + (i : Int)))) = done[i]?
theorem rw_terms [DecidableEq Ob] {u0 : iST} {E : Sp.Env} {Q : Int → iST → Prop} {d : Nat} (hT0 : TI u0) (hE : EnvS u0 E) (ih : RwG u0 E Q d) {v0 : iST} {R : EStateM.Result Unit Sp.Wk Ob} {tr : Int} (hO : Owe u0 E Q v0 R) (hd : v0.1 102 + 1 + (d : Int) = 60) {k : Int} {F : Ob} (hq : F ≠ Ob.quote) (hF : F.isSym = true) (hif : F ≠ Ob.ifS) {n : Nat} (har : Sp.arOf E F = (n : Int)) : ∀ (l : List Ob) (v : iST) (s : Sp.Wk) (done : List Ob), InJ u0 E v0 v tr s → v.1 61 = 0 → v.1 109 = v0.1 109 → v.2.1 92 (v0.1 102) = k → v.2.1 94 (v0.1 102) = 10 → v.2.1 99 (v0.1 102) = v0.1 104 → Nd v E k → (ob v k).isPr = true → Ob.lft (ob v k) = F → 0 ≤ v.2.1 98 (v0.1 102) → v.2.1 98 (v0.1 102) < v.1 8 → ob v (v.2.1 98 (v0.1 102)) = Ob.ofList l → (∀ x, x ∈ l → Tm v x ∧ Ob.wt (Sp.arOf E) x) → RsL v E (v0.1 104) done → done.length + l.length = n →
    R = Sp.bd (Sp.bd (Sp.rwArgs (fun a => Sp.rw E d (cxL v0) a false) l) (fun vs => Sp.bd (Sp.big (.pr F (Ob.ofList (done ++ vs))) ((done ++ vs).length + 1)) (fun u => Sp.rwApply E (Sp.rw E d (cxL v0)) (cxL v0) u (decide (tr ≠ 0))))) (fun y => Sp.ret (Sp.fin (decide (tr ≠ 0)) y)) s →
    pw_nextTerm (v0.1 102) (fun w => pw_rewritten_21 Q w) v
  | [], v, s, done, hI, h61, h109, h92, h94, h99, nk, hp, eF, r0, r1, er, ht, hL, hn, hR => by
    have hT := hI.2.1.1.1
    have hU := hI.2.1.1.2.1
    have h71 : 0 ≤ v.1 71 := by rw [hI.2.1.2.1]; exact hI.2.2.2.2.2.2.2.2.2
    have z0 := (kat hT hU 0 (by decide) (by decide) rfl r0 r1).mpr er
    have hR1 : R = Sp.bd (Sp.bd (Sp.big (.pr F (Ob.ofList done)) (done.length + 1)) (fun u => Sp.rwApply E (Sp.rw E d (cxL v0)) (cxL v0) u (decide (tr ≠ 0)))) (fun y => Sp.ret (Sp.fin (decide (tr ≠ 0)) y)) s := by
      rw [hR]
      show Sp.bd (Sp.bd (Sp.big (.pr F (Ob.ofList (done ++ []))) ((done ++ []).length + 1)) _) _ s = _
      rw [List.append_nil]
    obtain ⟨l0, l1, _, _, eL, _, _⟩ := ob_lft hT nk.1 nk.2.1 hp
    have nk1 := nk.2.1
    have r104 := hI.2.2.2.2.2.2.2.2.1
    unfold pw_nextTerm
    intro _ _ x ex _
    rw [z0] at ex
    rw [ex]
    refine ⟨fun z => absurd rfl z, fun _ => ?_⟩
    intro y ey _ _ _ x2 ex2 _
    rw [h99] at ex2
    subst ey
    refine pw_nextTerm_21_i (fun a b c w => a = v0.1 102 ∧ b = v.1 71 ∧ ∃ i : Nat, c = v0.1 104 + (i : Int) ∧ i ≤ done.length ∧ BT v w i (done.take i)) ?_ ⟨rfl, rfl, 0, by rw [ex2]; simp, by omega, by rw [List.take_zero]; exact BT.rf hT hU⟩
    intro a b c w hJ
    obtain ⟨e1, e2, i, hc, hi, hb⟩ := hJ
    rw [e1, e2, hc]
    have gw := hb.1
    have gwJ : GZ f7J v w := (gw.mono fI_7M).mono f7M_J
    have q : ∀ m, 92 ≤ m → m ≤ 113 → w.1 m = v.1 m ∧ w.2.1 m = v.2.1 m := fun m a b => gw.2.2.2.2 m (fI_7M m (f7M_92 m a b))
    unfold pw_nextTerm_21b
    intro z ez _
    rw [(q 104 (by decide) (by decide)).1, hL.1] at ez
    rw [ez]
    refine ⟨fun hc2 => ?_, fun hc2 => ?_⟩
    · have hie : i = done.length := by omega
      rw [hie, List.take_length] at hb
      intro _ _ y1 ey1 _ _ _ y2 ey2 _
      rw [(q 92 (by decide) (by decide)).2, h92] at ey1
      have e0 : w.2.1 0 k = v.2.1 0 k := (gw.2.2.1.2.1 k nk.1 nk.2.1).1
      rw [ey1, e0] at ey2
      rw [ey2]
      show pw_made_33 (fun c u => pw_nextTerm_83 (fun w => pw_rewritten_21 Q w) (v0.1 102) c u) (v.2.1 0 k) (v.1 71) w
      refine hb.call hT hU h71 l0 (by omega) (by rw [← eL, eF]; exact hF) (by rw [← eL, eF]; exact hq) (fun c t hG c0 c1 ec tc fc => ?_)
      rw [← eL, eF] at ec
      have nc : Nd t E c := ⟨c0, c1, tc, by
        rw [ec]
        refine Ob.wt_mk hq hF (by rw [har]; simp at hn; omega) (fun x hx => ?_)
        obtain ⟨i', hi', ex'⟩ := List.mem_iff_getElem.mp hx
        obtain ⟨nd, e⟩ := hL.2 i' hi'
        rw [List.getElem?_eq_getElem hi'] at e
        rw [← ex', ← Option.some.inj e]
        exact nd.2.2.2⟩
      have hm := MK_big (n := done.length + 1) (s := s) h61 ec fc
      have it := hI.gm hG
      have qt : ∀ m, 92 ≤ m → m ≤ 113 → t.1 m = v.1 m ∧ t.2.1 m = v.2.1 m := fun m a b => hG.1.2.2.2.2 m (f7M_92 m a b)
      unfold pw_nextTerm_83
      intro _ _ y3 ey3 _ t1 et1 _ _ t2 et2 y4 ey4 _
      rw [(qt 99 (by decide) (by decide)).2, h99] at ey3
      obtain ⟨i1, k1, n1, m1⟩ := it.num et1 (by decide)
      have hT1 := i1.2.1.1.1
      have hU1 := i1.2.1.1.2.1
      have k2 : RK (v0.1 102) (v0.1 104) (v0.1 109) t1 t2 := by rw [et2]; exact RK_A hT1 hU1 (by decide) (by decide) (fun _ _ => Int.le_refl _) (fun z => by cases z) (fun z => by omega) (fun z => by cases z) (fun z => by cases z)
      have n2 : t2.1 = t1.1 := by rw [et2]; rfl
      have r2 : ∀ m, t2.2.1 m (v0.1 102) = if m = 92 then c else t1.2.1 m (v0.1 102) := fun m => by
        rw [et2, iA_row]
        by_cases z : m = 92
        · rw [if_pos ⟨z, rfl⟩, if_pos z]
        · rw [if_neg (fun y => z y.1), if_neg z]
      have i2 : InJ u0 E v0 t2 tr s := i1.keep k2 (Int.le_refl _) (Int.le_refl _) (Int.le_refl _) (by rw [n2]) (by rw [n2]; exact i1.2.2.2.1) (by unfold StL; rw [n2]; exact i1.2.2.2.2.1) (by rw [r2, if_neg (by decide)]; exact i1.2.2.2.2.2.1)
      clear et1 et2
      have g2 : GZ f7J t t2 := (k1 0 0 0).1.tr k2.1
      obtain ⟨nc2, ec2⟩ := nc.mono hG.1.1 g2
      have t261 : t2.1 61 = t.1 61 := by rw [n2, m1, if_neg (by decide)]
      have t2104 : t2.1 104 = v0.1 104 := by rw [n2, m1, if_pos rfl, ey3]
      have t2109 : t2.1 109 = v0.1 109 := by rw [n2, m1, if_neg (by decide), (qt 109 (by decide) (by decide)).1]; exact h109
      rw [t261] at ey4
      rw [ey4]
      rcases hm with ⟨s1, em, es1, h0⟩ | ⟨s1, em, es1, h0⟩
      · refine ⟨fun z => absurd h0 z, fun _ => ?_⟩
        refine rw_apply hT0 hE ih hO hd ⟨i2.st es1, by rw [t261]; exact h0, t2104, t2109, by rw [r2, if_pos rfl], nc2, by rw [ec2, ec]; exact decide_eq_true hq⟩ (by rw [ec2, ec]; exact hif) ?_
        rw [hR1, bd_ok2 em, ec2]
      · refine ⟨fun z => hO.bad (i2.st es1) (by rw [hR1, bd_err2 em]) (by rw [t261]; exact h0), fun z => absurd h0 z⟩
    · have hi' : i < done.length := by omega
      obtain ⟨nd, end'⟩ := hL.2 i hi'
      intro _ _ y1 ey1 _
      rw [(q 103 (by decide) (by decide)).2] at ey1
      rw [ey1]
      refine hb.more hT nd.1 nd.2.1 nd.2.2.1 (fun t ht2 => fun _ => ⟨rfl, rfl, i + 1, by omega, by omega, ?_⟩)
      have : done.take (i + 1) = done.take i ++ [ob v (v.2.1 103 (v0.1 104 + (i : Int)))] := by
        rw [List.take_add_one, ← end']
        rfl
      rw [this]
      exact ht2
  | a :: l, v, s, done, hI, h61, h109, h92, h94, h99, nk, hp, eF, r0, r1, er, ht, hL, hn, hR => by
    have hT := hI.2.1.1.1
    have hU := hI.2.1.1.2.1
    have er' : ob v (v.2.1 98 (v0.1 102)) = .pr a (Ob.ofList l) := er
    obtain ⟨l0, l1, q0, q1, _, _, ep⟩ := ob_lft hT r0 r1 (by rw [er']; rfl)
    rw [er'] at ep
    have ea := (Ob.pr.inj ep).1
    have eb := (Ob.pr.inj ep).2
    have hr0 : v.2.1 98 (v0.1 102) ≠ 0 := by
      intro z
      have := (kat hT hU 0 (by decide) (by decide) rfl r0 r1).mp z
      rw [er'] at this
      cases this
    have r104 := hI.2.2.2.2.2.2.2.2.1
    have hL1 := hL.1
    unfold pw_nextTerm
    intro _ _ x ex _
    refine ⟨fun _ => ?_, fun z => absurd (ex.symm.trans (Decidable.not_not.mp z)) hr0⟩
    intro _ _ y1 ey1 _ _ _ y2 ey2 _ _ _ y3 ey3 _ _ _ y4 ey4 _ _ _ t et
    rw [ey1] at ey2
    rw [ey3] at ey4
    have mrow : ∀ m, m ≠ 98 → t.2.1 m = v.2.1 m := fun m hm => by rw [et]; exact if_neg hm
    obtain ⟨it, kt, nt, mt⟩ := hI.row et (by decide)
    clear et
    have gt := (kt 0 0).1
    obtain ⟨ta, wa⟩ := ht a List.mem_cons_self
    have na : Nd v E (v.2.1 0 (v.2.1 98 (v0.1 102))) := ⟨l0, by omega, by rw [← ea]; exact ta, by rw [← ea]; exact wa⟩
    rw [ey2]
    obtain ⟨nat, eat⟩ := na.mono hT gt
    rw [← ea] at eat
    obtain ⟨cxt, cxet⟩ := it.cx hT0 (by rw [nt]; exact h109)
    have hR1 : R = Sp.bd (Sp.bd (Sp.rw E d (cxL v0) a false) (fun x => Sp.bd (Sp.bd (Sp.rwArgs (fun a => Sp.rw E d (cxL v0) a false) l) (fun vs => Sp.ret (x :: vs))) (fun vs => Sp.bd (Sp.big (.pr F (Ob.ofList (done ++ vs))) ((done ++ vs).length + 1)) (fun u => Sp.rwApply E (Sp.rw E d (cxL v0)) (cxL v0) u (decide (tr ≠ 0)))))) (fun y => Sp.ret (Sp.fin (decide (tr ≠ 0)) y)) s := by
      rw [hR, show Sp.rwArgs (fun a => Sp.rw E d (cxL v0) a false) (a :: l) = Sp.bd (Sp.rw E d (cxL v0) a false) (fun x => Sp.bd (Sp.rwArgs (fun a => Sp.rw E d (cxL v0) a false) l) (fun vs => Sp.ret (x :: vs))) from rfl, bd_assoc (Sp.rw E d (cxL v0) a false)]
    clear hR
    refine rw_sub ih hO it hd (by rw [nt]; omega) (by rw [nt]; omega) cxt nat (fun z => absurd h61 (by rw [← nt]; exact z)) (fun _ s' h => by rw [cxet, eat] at h; rw [hR1]; exact bd_err2 h) (fun _ w s' r hev kw iw w61 w104 w109 w110 nr => ?_)
    rw [cxet, eat] at hev
    have hev : Sp.rw E d (cxL v0) a false s = .ok (ob w r) s' := hev
    have hR2 : R = Sp.bd (Sp.bd (Sp.rwArgs (fun a => Sp.rw E d (cxL v0) a false) l) (fun vs => Sp.bd (Sp.big (.pr F (Ob.ofList ((done ++ [ob w r]) ++ vs))) (((done ++ [ob w r]) ++ vs).length + 1)) (fun u => Sp.rwApply E (Sp.rw E d (cxL v0)) (cxL v0) u (decide (tr ≠ 0))))) (fun y => Sp.ret (Sp.fin (decide (tr ≠ 0)) y)) s' := by
      rw [hR1, bd_ok2 hev, bd_assoc (Sp.rwArgs (fun a => Sp.rw E d (cxL v0) a false) l)]
      refine congrFun (congrArg (fun f => Sp.bd (Sp.bd (Sp.rwArgs (fun a => Sp.rw E d (cxL v0) a false) l) f) (fun y => Sp.ret (Sp.fin (decide (tr ≠ 0)) y))) (funext (fun vs => ?_))) s'
      rw [List.append_assoc]
      rfl
    clear hR1
    rw [nt] at w104 w109 kw
    have rows : ∀ m, 92 ≤ m → m ≤ 101 → w.2.1 m (v0.1 102) = if m = 98 then v.2.1 1 (v.2.1 98 (v0.1 102)) else v.2.1 m (v0.1 102) := fun m a b => by
      rw [kw.2.2.1 m _ a b (by omega), mt, ey4]
    unfold pw_takeResult
    intro _ t5 et5 _ _ p ep5 _
    obtain ⟨i5, k5, q5, n5⟩ := iw.num et5 (by decide)
    have hp5 : p = 10 := by rw [ep5, q5, rows 94 (by decide) (by decide)]; exact h94
    clear et5 ep5
    subst hp5
    refine ⟨fun n => absurd n (by decide), fun _ => ⟨fun n => absurd n (by decide), fun _ => ⟨fun n => absurd n (by decide), fun _ => ⟨fun n => absurd n (by decide), fun _ => ⟨fun _ => ?_, fun n => absurd rfl n⟩⟩⟩⟩⟩
    intro z1 ez1 _ z2 ez2 _ _ _ t6 et6 z3 ez3 _ _ t7 et7
    rw [n5, if_neg (by decide), w104] at ez1
    rw [n5, if_neg (by decide), w110] at ez2
    have hT5 := i5.2.1.1.1
    have hU5 := i5.2.1.1.2.1
    have k6 : RK (v0.1 102) (v.1 104) (v0.1 109) t5 t6 := by rw [et6]; exact RK_A hT5 hU5 (by decide) (by decide) (fun _ z => absurd z (by decide)) (fun _ => by omega) (fun z => by omega) (fun z => by cases z) (fun z => by cases z)
    have r103 : ∀ i, t6.2.1 103 i = if i = v.1 104 then r else w.2.1 103 i := fun i => by
      rw [et6, iA_row, q5, ez1, ez2]
      by_cases c : i = v.1 104
      · rw [if_pos ⟨rfl, c⟩, if_pos c]
      · rw [if_neg (fun z => c z.2), if_neg c]
    have m6 : ∀ m, m ≠ 103 → t6.2.1 m = w.2.1 m := fun m hm => by rw [et6, ← q5]; exact if_neg hm
    have n6 : t6.1 = t5.1 := by rw [et6]; rfl
    have i6 : InJ u0 E v0 t6 tr s' := i5.keep k6 (Int.le_refl _) (by omega) (Int.le_refl _) (by rw [n6]) (by rw [n6]; exact i5.2.2.2.1) (by unfold StL; rw [n6]; exact i5.2.2.2.2.1) (by rw [m6 93 (by decide), ← q5]; exact i5.2.2.2.2.2.1)
    clear et6
    obtain ⟨i7, k7, q7, n7⟩ := i6.num et7 (by decide)
    clear et7
    have g57 : GZ f7J w t7 := ((k5 0 0 0).1.tr k6.1).tr (k7 0 0 0).1
    have gv7 : GZ f7J v t7 := (gt.tr kw.1).tr g57
    have hTw := iw.2.1.1.1
    obtain ⟨nk7, ek7⟩ := nk.mono hT gv7
    have rows7 : ∀ m, 92 ≤ m → m ≤ 101 → t7.2.1 m (v0.1 102) = if m = 98 then v.2.1 1 (v.2.1 98 (v0.1 102)) else v.2.1 m (v0.1 102) := fun m a b => by
      rw [q7, m6 m (by omega), rows m a b]
    have t104 : t7.1 104 = v.1 104 + 1 := by rw [n7, if_pos rfl, ez3, n6, n5, if_neg (by decide), w104]
    have r98 : t7.2.1 98 (v0.1 102) = v.2.1 1 (v.2.1 98 (v0.1 102)) := by rw [rows7 98 (by decide) (by decide), if_pos rfl]
    have hl7 := gv7.le
    obtain ⟨nr7, er7⟩ := nr.mono hTw g57
    refine rw_terms hT0 hE ih hO hd hq hF hif har l t7 s' (done ++ [ob w r]) i7 ?_ ?_ (by rw [rows7 92 (by decide) (by decide), if_neg (by decide)]; exact h92) (by rw [rows7 94 (by decide) (by decide), if_neg (by decide)]; exact h94) (by rw [rows7 99 (by decide) (by decide), if_neg (by decide)]; exact h99) nk7 (by rw [ek7]; exact hp) (by rw [ek7]; exact eF) (by rw [r98]; exact q0) (by rw [r98]; omega) (by rw [r98, gv7.ob hT q0 (by omega)]; exact eb.symm) (fun x hx => ⟨(ht x (List.mem_cons_of_mem _ hx)).1.mono gv7 hT, (ht x (List.mem_cons_of_mem _ hx)).2⟩) ⟨?_, fun i hi => ?_⟩ (by simp at hn ⊢; omega) hR2
    · rw [n7, if_neg (by decide), n6, n5, if_neg (by decide)]; exact w61
    · rw [n7, if_neg (by decide), n6, n5, if_neg (by decide), w109]; exact h109
    · rw [t104, hL1]; simp; omega
    · rw [q7, r103]
      by_cases c : i = done.length
      · rw [if_pos (by omega), c]
        refine ⟨nr7, ?_⟩
        rw [er7]
        simp
      · have hi' : i < done.length := by simp at hi; omega
        rw [if_neg (by omega)]
        obtain ⟨z1, z2⟩ := hL.2 i hi'
        have e103 : w.2.1 103 (v0.1 104 + (i : Int)) = v.2.1 103 (v0.1 104 + (i : Int)) := by
          rw [kw.2.2.2.1 _ (by omega), mrow 103 (by decide)]
        rw [e103]
        obtain ⟨y1, y2⟩ := z1.mono hT gv7
        refine ⟨y1, ?_⟩
        rw [y2, z2, List.getElem?_append_left hi']
