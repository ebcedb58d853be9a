-- deps: 480
theorem RK_hi [DecidableEq Ob] {v w : iST} (hG : GZ f7J v w) (h71 : w.1 71 = v.1 71) (hn : ∀ n, 75 ≤ n → w.1 n = v.1 n ∧ w.2.1 n = v.2.1 n) (j r c : Int) : RK j r c v w :=
  ⟨hG, h71, fun n i n0 _ _ => congrFun (hn n (by omega)).2 i, fun i _ => congrFun (hn 103 (by decide)).2 i, fun i _ => ⟨congrFun (hn 105 (by decide)).2 i, congrFun (hn 106 (by decide)).2 i⟩, fun i _ => congrFun (hn 107 (by decide)).2 i, fun i _ => congrFun (hn 108 (by decide)).2 i⟩
theorem InJ.hi [DecidableEq Ob] {u0 : iST} {E : Sp.Env} {v0 v w : iST} {tr : Int} {s : Sp.Wk} (h : InJ u0 E v0 v tr s) (hG : GZ f7J v w) (h71 : w.1 71 = v.1 71) (hn : ∀ n, 75 ≤ n → w.1 n = v.1 n ∧ w.2.1 n = v.2.1 n) (h64 : w.1 64 = v.1 64) (h60 : w.1 60 = v.1 60) : InJ u0 E v0 w tr s :=
  h.keep (RK_hi hG h71 hn (v0.1 102) (v0.1 104) (v0.1 109)) (Int.le_refl _) (Int.le_refl _) (Int.le_refl _) (hn 102 (by decide)).1 (h64.trans h.2.2.2.1) (by unfold StL; rw [h60, (hG.2.2.2.2 59 (by decide)).1]; exact h.2.2.2.2.1) ((congrFun (hn 93 (by decide)).2 _).trans h.2.2.2.2.2.1)
theorem InJ.env [DecidableEq Ob] {u0 : iST} {E : Sp.Env} {v0 v : iST} {tr : Int} {s : Sp.Wk} (h : InJ u0 E v0 v tr s) (hT0 : TI u0) (hE : EnvS u0 E) : EnvS v E := hE.mono hT0 (h.1.tr h.2.1.1)
/-- the test of a definition has come -/
theorem rw_ph40 [DecidableEq Ob] {u0 : iST} {E : Sp.Env} {Q : Int → iST → Prop} {d : Nat} (hT0 : TI u0) (hE : EnvS u0 E) (ih : RwG u0 E Q d) {v0 w : iST} {R : EStateM.Result Unit Sp.Wk Ob} {tr : Int} {s : Sp.Wk} {D : Sp.Dfn} (hO : Owe u0 E Q v0 R) (hI : InJ u0 E v0 w tr s) (hd : v0.1 102 + 1 + (d : Int) = 60) (h61 : w.1 61 = 0) (h104 : w.1 104 = v0.1 104) (h109 : w.1 109 = v0.1 109) {k r : Int} (h94 : w.2.1 94 (v0.1 102) = 40) (h92 : w.2.1 92 (v0.1 102) = k) (h110 : w.1 110 = r) (nk : Nd w E k) (hc : (ob w k).isCall = true) (hdf : E.dfn (Ob.lft (ob w k)) = some D) (hif : D.body.isCallOf Ob.ifS = true) (nr : Nd w E r)
    (hR : R = Sp.bd (if Ob.isConst (ob w r) then Sp.bd (Sp.fill (Ob.lkD (D.params.zip (Ob.toList (Ob.rgt (ob w k))))) (Ob.item D.body (if ob w r = Ob.nil then 3 else 2))) (fun x => Sp.rw E d (cxL v0) x (decide (tr ≠ 0))) else Sp.ret (ob w k)) (fun y => Sp.ret (Sp.fin (decide (tr ≠ 0)) y)) s) : pw_takeResult (v0.1 102) (fun w => pw_rewritten_21 Q w) w := by
  have hT := hI.2.1.1.1
  unfold pw_takeResult
  intro _ t et _ _ p ep _
  obtain ⟨it, kt, t2, tn⟩ := hI.num et (by decide)
  have hp : p = 40 := by rw [ep, t2]; exact h94
  clear et ep
  subst hp
  refine ⟨fun n => absurd n (by decide), fun _ => ⟨fun n => absurd n (by decide), fun _ => ⟨fun n => absurd n (by decide), fun _ => ⟨fun n => absurd n (by decide), fun _ => ⟨fun n => absurd n (by decide), fun _ => ⟨fun n => absurd n (by decide), fun _ => ⟨fun _ => ?_, fun n => absurd rfl n⟩⟩⟩⟩⟩⟩⟩
  have gt := (kt 0 0 0).1
  have hTt := gt.1
  have hUt := gt.2.1
  obtain ⟨nrt, ert⟩ := nr.mono hT gt
  obtain ⟨nkt, ekt⟩ := nk.mono hT gt
  have q : ∀ n, n ≠ 111 → t.1 n = w.1 n := fun n a => by rw [tn, if_neg a]
  have q61 : t.1 61 = 0 := by rw [q 61 (by decide)]; exact h61
  have h71 : 0 ≤ t.1 71 := by rw [it.2.1.2.1]; exact it.2.2.2.2.2.2.2.2.2
  have t104 : t.1 104 = v0.1 104 := by rw [q 104 (by decide)]; exact h104
  have t109 : t.1 109 = v0.1 109 := by rw [q 109 (by decide)]; exact h109
  have z0 := kat hTt hUt 0 (by decide) (by decide) rfl nrt.1 nrt.2.1
  rw [← ert, ← ekt] at hR
  intro y ey _
  rw [q 110 (by decide), h110] at ey
  rw [ey]
  refine p_isConstant hTt hUt nrt.1 nrt.2.1 nrt.2.2.1 (fun r1 hr1 => ⟨fun hz => ?_, fun hz => ?_⟩)
  · intro _ _ x ex _
    have hx : x = k := by rw [ex, t2]; exact h92
    rw [hx]
    refine rw_end hO it t104 t109 nkt (fun _ => ?_) (fun z => absurd q61 z)
    rw [hR, if_neg (by rw [hr1.f hz]; decide)]
    rfl
  · have hcn := hr1.t hz
    rw [if_pos hcn] at hR
    have body : ∀ n : Int, 1 ≤ n → n ≤ 3 → (if ob t r = Ob.nil then 3 else 2) = n.toNat → pw_takeResult_352 (fun w => pw_rewritten_21 Q w) k n t := by
      intro n n1 n2 en
      unfold pw_takeResult_352
      refine p_bodyOf (D := D) hTt hUt (it.env hT0 hE) h71 q61 nkt (by rw [ekt]; exact hc) (by rw [ekt]; exact hdf) (Or.inr ⟨hif, n1, n2⟩) s (fun x v gv v71 vn v64 v60 nx hm => ?_)
      rw [if_neg (by omega), ← en] at hm
      have iv := it.hi gv v71 vn v64 v60
      have v104 : v.1 104 = v0.1 104 := by rw [(vn 104 (by decide)).1]; exact t104
      have v109 : v.1 109 = v0.1 109 := by rw [(vn 109 (by decide)).1]; exact t109
      rcases hm with ⟨s1, e1, es1, h0⟩ | ⟨s1, e1, es1, h0⟩
      · exact rw_pass hT0 ih hO (iv.st es1) hd v104 v109 nx (fun _ => by rw [hR, bd_ok2 e1]) (fun z => absurd h0 z)
      · exact rw_pass hT0 ih hO (iv.st es1) hd v104 v109 nx (fun z => absurd z h0) (fun _ => by rw [hR, bd_err2 e1])
    intro _ _ x ex _ y ey _
    have hx : x = k := by rw [ex, t2]; exact h92
    rw [q 110 (by decide), h110] at ey
    rw [hx, ey]
    exact ⟨fun he => body 2 (by decide) (by decide) (if_neg (fun z => he (z0.mpr z))), fun he => body 3 (by decide) (by decide) (if_pos (z0.mp (Decidable.not_not.mp he)))⟩
theorem rw_define [DecidableEq Ob] {u0 : iST} {E : Sp.Env} {Q : Int → iST → Prop} {d : Nat} (hT0 : TI u0) (hE : EnvS u0 E) (ih : RwG u0 E Q d) {v0 v : iST} {R : EStateM.Result Unit Sp.Wk Ob} {tr : Int} {s : Sp.Wk} (hO : Owe u0 E Q v0 R) (hI : InJ u0 E v0 v tr s) (hd : v0.1 102 + 1 + (d : Int) = 60) (h61 : v.1 61 = 0) (h104 : v.1 104 = v0.1 104) (h109 : v.1 109 = v0.1 109) {k : Int} (h92 : v.2.1 92 (v0.1 102) = k) (nk : Nd v E k) (hc : (ob v k).isCall = true)
    (hR : R = Sp.bd (Sp.unf E (Sp.rw E d (cxL v0)) (ob v k) (decide (tr ≠ 0))) (fun y => Sp.ret (Sp.fin (decide (tr ≠ 0)) y)) s) : pw_define (v0.1 102) (fun w => pw_rewritten_21 Q w) v := by
  have hT := hI.2.1.1.1
  have hU := hI.2.1.1.2.1
  have hEv := hI.env hT0 hE
  obtain ⟨hD, h57, hW, hTh⟩ := hEv
  have h71 : 0 ≤ v.1 71 := by rw [hI.2.1.2.1]; exact hI.2.2.2.2.2.2.2.2.2
  obtain ⟨F, l, e, h1, h2, h3, h4⟩ := nk.call hc
  have k0 := nk.1
  have k1 := nk.2.1
  obtain ⟨l0, l1, _, _, eL, _, _⟩ := ob_lft hT k0 k1 (by rw [e]; rfl)
  obtain ⟨cx, cxe⟩ := hI.cx hT0 h109
  have plain : E.dfn (Ob.lft (ob v k)) = none ∨ (∃ D, E.dfn (Ob.lft (ob v k)) = some D ∧ D.meas.isNone = false ∧ D.body.isCallOf Ob.ifS = false) → pw_end0 k (fun w => pw_rewritten_21 Q w) v := by
    intro z
    refine rw_end hO hI h104 h109 nk (fun _ => ?_) (fun z => absurd h61 z)
    rw [hR]
    unfold Sp.unf
    rcases z with z | ⟨D, z1, z2, z3⟩
    · rw [z]; rfl
    · rw [z1]
      show Sp.bd (if D.meas.isNone = true then _ else if Ob.isCallOf D.body Ob.ifS = true then _ else Sp.ret (ob v k)) _ s = _
      rw [if_neg (by rw [z2]; decide), if_neg (by rw [z3]; decide)]
      rfl
  unfold pw_define
  intro _ _ x ex _ _ _ f ef _
  rw [h92] at ex
  rw [ex] at ef
  subst ef
  rw [ex]
  refine p_functionOf (fun rr hrr => ?_)
  have hfn := FnOf_dfn hT hU hD h57 l0 (by omega) hrr
  rw [← eL] at hfn
  refine ⟨fun hge => ?_, fun hlt => ?_⟩
  · rcases hfn with ⟨z, _⟩ | ⟨_, z, _⟩ | ⟨dd, d0, d1, d2, d3, d4, d5⟩
    · omega
    · omega
    · rw [show rr - 100 = dd by omega]
      obtain ⟨_, _, ⟨c1, c2, c3⟩, _⟩ := hD.2.2 dd d0 d1
      obtain ⟨w1, w2⟩ := hW _ (dfn_mem d4).1
      have hunf : Sp.unf E (Sp.rw E d (cxL v0)) (ob v k) (decide (tr ≠ 0)) = if (dfn1 v dd).meas.isNone then Sp.bd (Sp.fill (Ob.lkD ((dfn1 v dd).params.zip (Ob.toList (Ob.rgt (ob v k))))) (dfn1 v dd).body) (fun x => Sp.rw E d (cxL v0) x (decide (tr ≠ 0)))
          else if Ob.isCallOf (dfn1 v dd).body Ob.ifS then Sp.bd (Sp.fill (Ob.lkD ((dfn1 v dd).params.zip (Ob.toList (Ob.rgt (ob v k))))) (Ob.item (dfn1 v dd).body 1)) (fun q => Sp.bd (Sp.rw E d (cxL v0) q true) (fun a => if Ob.isConst a then Sp.bd (Sp.fill (Ob.lkD ((dfn1 v dd).params.zip (Ob.toList (Ob.rgt (ob v k))))) (Ob.item (dfn1 v dd).body (if a = Ob.nil then 3 else 2))) (fun x => Sp.rw E d (cxL v0) x (decide (tr ≠ 0))) else Sp.ret (ob v k))) else Sp.ret (ob v k) := by
        unfold Sp.unf
        rw [d4]
      have hme : (dfn1 v dd).meas.isNone = decide (v.2.1 41 dd = 0) := by
        show (if v.2.1 41 dd ≠ 0 then some (ob v (v.2.1 40 dd)) else none).isNone = _
        by_cases z : v.2.1 41 dd = 0
        · rw [if_neg (not_not_intro z), decide_eq_true z]; rfl
        · rw [if_pos z, decide_eq_false z]; rfl
      intro _ _ _ y ey _
      subst ey
      refine ⟨fun hself => ?_, fun hself => ?_⟩
      · have hmn : (dfn1 v dd).meas.isNone = false := by rw [hme]; exact decide_eq_false hself
        intro _ _ _ b eb _
        subst eb
        refine p_callK hT hU c1 c2 3 (by decide) (by decide) rfl (fun r3 hr3 => ⟨fun hz => plain (Or.inr ⟨_, d4, hmn, hr3.f hz⟩), fun hz => ?_⟩)
        have hif : (dfn1 v dd).body.isCallOf Ob.ifS = true := hr3.t hz
        rw [hunf, if_neg (by rw [hmn]; decide), if_pos hif] at hR
        intro _ _ t et
        obtain ⟨it, kt, nt, mt⟩ := hI.row et (by decide)
        clear et
        have gt := (kt 0 0).1
        obtain ⟨nkt, ekt⟩ := nk.mono hT gt
        refine p_bodyOf (D := dfn1 v dd) gt.1 gt.2.1 (it.env hT0 hE) (by rw [nt]; exact h71) (by rw [nt]; exact h61) nkt (by rw [ekt]; exact hc) (by rw [ekt]; exact d4) (Or.inr ⟨hif, by decide, by decide⟩) s (fun x z gz z71 zn z64 z60 nx hm => ?_)
        rw [if_neg (by decide), ekt, show (1 : Int).toNat = 1 from rfl] at hm
        have iz := it.hi gz z71 zn z64 z60
        have z104 : z.1 104 = v0.1 104 := by rw [(zn 104 (by decide)).1, nt]; exact h104
        have z109 : z.1 109 = v0.1 109 := by rw [(zn 109 (by decide)).1, nt]; exact h109
        obtain ⟨cxz, cxez⟩ := iz.cx hT0 z109
        rcases hm with ⟨s1, e1, es1, h0⟩ | ⟨s1, e1, es1, h0⟩
        · rw [bd_ok2 e1] at hR
          refine rw_sub ih hO (iz.st es1) hd (by omega) (by omega) cxz nx (fun z => absurd h0 z) (fun _ s' h => by rw [cxez] at h; rw [hR]; exact bd_err2 h) (fun _ w s' r hev kw iw w61 w104 w109 w110 nr => ?_)
          rw [cxez] at hev
          have hR2 := hR.trans (bd_ok2 hev)
          have gvw : GZ f7J v w := (gt.tr gz).tr kw.1
          obtain ⟨nkw, ekw⟩ := nk.mono hT gvw
          refine rw_ph40 hT0 hE ih (D := dfn1 v dd) (k := k) hO iw hd w61 (by omega) (by omega) ?_ ?_ w110 nkw (by rw [ekw]; exact hc) (by rw [ekw]; exact d4) hif nr (by rw [ekw]; exact hR2)
          · rw [kw.2.2.1 94 _ (by decide) (by decide) (by omega), (zn 94 (by decide)).2, mt, if_pos rfl]
          · rw [kw.2.2.1 92 _ (by decide) (by decide) (by omega), (zn 92 (by decide)).2, mt, if_neg (by decide)]; exact h92
        · exact rw_sub ih hO (iz.st es1) hd (by omega) (by omega) cxz nx (fun _ => by rw [hR, bd_err2 e1]) (fun z => absurd z h0) (fun z => absurd z h0)
      · have hmn : (dfn1 v dd).meas.isNone = true := by rw [hme]; exact decide_eq_true (Decidable.not_not.mp hself)
        rw [hunf, if_pos hmn] at hR
        refine p_bodyOf (D := dfn1 v dd) hT hU ⟨hD, h57, hW, hTh⟩ h71 h61 nk hc d4 (Or.inl rfl) s (fun x z gz z71 zn z64 z60 nx hm => ?_)
        rw [if_pos rfl] at hm
        have iz := hI.hi gz z71 zn z64 z60
        have z104 : z.1 104 = v0.1 104 := by rw [(zn 104 (by decide)).1]; exact h104
        have z109 : z.1 109 = v0.1 109 := by rw [(zn 109 (by decide)).1]; exact h109
        rcases hm with ⟨s1, e1, es1, h0⟩ | ⟨s1, e1, es1, h0⟩
        · exact rw_pass hT0 ih hO (iz.st es1) hd z104 z109 nx (fun _ => by rw [hR, bd_ok2 e1]) (fun z => absurd h0 z)
        · exact rw_pass hT0 ih hO (iz.st es1) hd z104 z109 nx (fun z => absurd z h0) (fun _ => by rw [hR, bd_err2 e1])
  · rcases hfn with ⟨_, z, _⟩ | ⟨_, _, _, z⟩ | ⟨dd, d0, d1, d2, _⟩
    · exact plain (Or.inl z)
    · exact plain (Or.inl z)
    · omega
