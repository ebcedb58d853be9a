-- deps: 474
theorem rw_step1 [DecidableEq Ob] {Q : Int → iST → Prop} {w : iST} {j : Int} (h61 : w.1 61 = 0) (h102 : w.1 102 = j + 1) (j0 : 0 ≤ j) (h111 : w.1 111 = 1) (h : pw_takeResult j (fun u => pw_rewritten_21 Q u) w) : pw_rewritten_21 Q w := by
  refine fo_w_rewritten_21 ?_
  unfold pw_rewritten_21b
  intro x ex _
  subst ex
  refine ⟨fun z => absurd h61 z, fun _ => ?_⟩
  intro x ex _
  subst ex
  refine ⟨fun z => by omega, fun _ => ?_⟩
  intro x ex _ _ y ey _
  subst ex ey
  rw [show w.1 102 - 1 = j by omega]
  exact ⟨fun z => by omega, fun _ => h⟩
theorem rw_step0 [DecidableEq Ob] {Q : Int → iST → Prop} {w : iST} {j : Int} (h61 : w.1 61 = 0) (h102 : w.1 102 = j + 1) (j0 : 0 ≤ j) (h111 : w.1 111 = 0) (h : pw_startJob j (fun u => pw_rewritten_21 Q u) w) : pw_rewritten_21 Q w := by
  refine fo_w_rewritten_21 ?_
  unfold pw_rewritten_21b
  intro x ex _
  subst ex
  refine ⟨fun z => absurd h61 z, fun _ => ?_⟩
  intro x ex _
  subst ex
  refine ⟨fun z => by omega, fun _ => ?_⟩
  intro x ex _ _ y ey _
  subst ex ey
  rw [show w.1 102 - 1 = j by omega]
  exact ⟨fun _ => h, fun z => absurd h111 z⟩
theorem bj_bad [DecidableEq Ob] {k tr : Int} {P : iST → Prop} {v : iST} (hT : TI v) (hU : TU v) (h61 : v.1 61 ≠ 0) (h : ∀ w, (∀ j r c, RK j r c v w) → (∀ n, n ≠ 111 → w.1 n = v.1 n) → P w) : pw_beginJob k tr P v := by
  unfold pw_beginJob
  intro _ w ew x ex _
  have hk : ∀ n, n ≠ 111 → w.1 n = v.1 n := fun n hn => by rw [ew]; exact if_neg hn
  rw [hk 61 (by decide)] at ex
  subst ex
  refine ⟨fun z => absurd z h61, fun _ => h w (fun j r c => ?_) hk⟩
  rw [ew]
  exact RK_I hT hU (by decide) (by decide) (by decide) _ _ _
/-- a job that has failed -/
theorem Owe.bad [DecidableEq Ob] {u0 : iST} {E : Sp.Env} {Q : Int → iST → Prop} {v0 v : iST} {R : EStateM.Result Unit Sp.Wk Ob} {tr : Int} {s : Sp.Wk} (hO : Owe u0 E Q v0 R) (hI : InJ u0 E v0 v tr s) (hR : R = .error () s) (h61 : v.1 61 ≠ 0) : pw_rewritten_21 Q v :=
  hO.2 v s hR (hI.1.tr hI.2.1.1) hI.2.2.2.2.1 hI.2.2.2.1 h61
theorem InJ.keep [DecidableEq Ob] {u0 : iST} {E : Sp.Env} {v0 v w : iST} {tr : Int} {s s' : Sp.Wk} (h : InJ u0 E v0 v tr s) {j r c : Int} (hK : RK j r c v w) (hj : v0.1 102 ≤ j) (hr : v0.1 104 ≤ r) (hc : v0.1 109 ≤ c) (h102 : w.1 102 = v.1 102) (h64 : w.1 64 = 0) (hS : StL w s') (h93 : w.2.1 93 (v0.1 102) = tr) : InJ u0 E v0 w tr s' := by
  obtain ⟨a1, a2, a3, a4, a5, a6, a7, a8, a9, a10⟩ := h
  exact ⟨a1, a2.tr hK hj hr hc, h102.trans a3, h64, hS, h93, a7, a8, a9, a10⟩
/-- the contexts of a job -/
theorem InJ.cx [DecidableEq Ob] {u0 : iST} {E : Sp.Env} {v0 v : iST} {tr : Int} {s : Sp.Wk} (h : InJ u0 E v0 v tr s) (hT0 : TI u0) (h109 : v.1 109 = v0.1 109) : CxOk v E ∧ cxL v = cxL v0 :=
  h.2.2.2.2.2.2.1.keep h.1.1 h.2.1 h109
theorem rw_pass [DecidableEq Ob] {u0 : iST} {E : Sp.Env} {Q : Int → iST → Prop} {d : Nat} (hT0 : TI u0) (ih : RwG u0 E Q d) {v0 v : iST} {R : EStateM.Result Unit Sp.Wk Ob} {tr : Int} {s : Sp.Wk} (hO : Owe u0 E Q v0 R) (hI : InJ u0 E v0 v tr s) (hd : v0.1 102 + 1 + (d : Int) = 60) (h104 : v.1 104 = v0.1 104) (h109 : v.1 109 = v0.1 109) {k : Int} (hk : Nd v E k)
    (h61 : v.1 61 = 0 → R = Sp.bd (Sp.rw E d (cxL v0) (ob v k) (decide (tr ≠ 0))) (fun x => Sp.ret (Sp.fin (decide (tr ≠ 0)) x)) s) (hb : v.1 61 ≠ 0 → R = .error () s) : pw_passOn k (fun w => pw_rewritten_21 Q w) v := by
  have hI' := hI
  obtain ⟨g0, hK, h102, h64, hS, htr, hC, j0, r0, b0⟩ := hI
  have hT := hK.1.1
  have hU := hK.1.2.1
  unfold pw_passOn
  intro a ea _ _ _ _ w ew _ _ b eb _
  subst ea
  have ej : v.1 102 - 1 = v0.1 102 := by omega
  rw [ej] at ew eb
  have kw : RK (v0.1 102) (v.1 104) (v.1 109) v w := by rw [ew]; exact RK_A hT hU (by decide) (by decide) (fun _ _ => Int.le_refl _) (fun z => by cases z) (fun z => by omega) (fun z => by cases z) (fun z => by cases z)
  have n1 : w.1 = v.1 := by rw [ew]; rfl
  have e93 : w.2.1 93 (v0.1 102) = tr := by rw [ew]; exact htr
  have e94 : w.2.1 94 (v0.1 102) = 90 := by rw [ew]; exact if_pos rfl
  rw [e93] at eb
  rw [eb]
  clear ew eb
  have iw : InJ u0 E v0 w tr s := hI'.keep kw (Int.le_refl _) (by omega) (by omega) (by rw [n1]) (by rw [n1]; exact h64) (by unfold StL; rw [n1]; exact hS) e93
  obtain ⟨nk, ek⟩ := hk.mono hT kw.1
  obtain ⟨cx, cxe⟩ := iw.cx hT0 (by rw [n1]; exact h109)
  by_cases c : v.1 61 = 0
  · refine ih w s k tr (g0.tr iw.2.1.1) (by rw [n1]; omega) (by rw [n1]; omega) (by rw [n1]; omega) (by rw [iw.2.1.2.1]; exact b0) (by rw [n1]; exact h64) iw.2.2.2.2.1 (by rw [n1]; exact c) nk cx (fun z s' r hr kz z102 z104 z109 z64 zS z61 z110 z111 nr => ?_) (fun z s' hr gz zS z64 z61 => ?_)
    · rw [cxe, ek] at hr
      rw [n1] at kz z102 z104 z109
      refine rw_step1 z61 (by omega) j0 z111 ?_
      have p94 : z.2.1 94 (v0.1 102) = 90 := (kz.2.2.1 94 _ (by decide) (by decide) (by omega)).trans e94
      unfold pw_takeResult
      intro _ t et _ _ p ep _
      have kt : RK (v0.1 102) (v0.1 104) (v0.1 109) z t := by rw [et]; exact RK_I kz.1.1 kz.1.2.1 (by decide) (by decide) (by decide) _ _ _
      have nt : ∀ n, n ≠ 111 → t.1 n = z.1 n := fun n hn => by rw [et]; exact if_neg hn
      have t93 : t.2.1 93 (v0.1 102) = tr := by rw [et]; exact (kz.2.2.1 93 _ (by decide) (by decide) (by omega)).trans e93
      have hp : p = 90 := by rw [ep, et]; exact p94
      clear et ep
      subst hp
      refine ⟨fun n => absurd n (by decide), fun _ => ⟨fun n => absurd n (by decide), fun _ => ⟨fun n => absurd n (by decide), fun _ => ⟨fun n => absurd n (by decide), fun _ => ⟨fun n => absurd n (by decide), fun _ => ⟨fun n => absurd n (by decide), fun _ => ⟨fun n => absurd n (by decide), fun _ => ?_⟩⟩⟩⟩⟩⟩⟩
      intro y ey _
      have hy : y = r := by rw [ey, nt 110 (by decide)]; exact z110
      rw [hy]
      obtain ⟨nrt, ert⟩ := nr.mono kz.1.1 kt.1
      refine rw_end (s := s') hO (iw.keep ((kz.mono (by omega) (by omega) (by omega) : RK (v0.1 102) (v0.1 104) (v0.1 109) w z).tr kt (Int.le_refl _) (Int.le_refl _) (Int.le_refl _)) (Int.le_refl _) (Int.le_refl _) (Int.le_refl _) (by rw [nt 102 (by decide), n1]; exact z102) (by rw [nt 64 (by decide)]; exact z64) (by unfold StL; rw [nt 60 (by decide), nt 59 (by decide)]; exact zS) t93) (by rw [nt 104 (by decide)]; omega) (by rw [nt 109 (by decide)]; omega) nrt (fun _ => ?_) (fun z => absurd z61 (by rw [← nt 61 (by decide)]; exact z))
      rw [h61 c, bind_ok hr, ert]
      rfl
    · rw [cxe, ek] at hr
      exact hO.2 z s' (by rw [h61 c, bind_err hr]) gz zS z64 z61
  · refine bj_bad kw.1.1 kw.1.2.1 (by rw [n1]; exact c) (fun z kz nz => ?_)
    have iz := iw.keep (kz (v0.1 102) (v0.1 104) (v0.1 109)) (Int.le_refl _) (Int.le_refl _) (Int.le_refl _) (nz 102 (by decide)) (by rw [nz 64 (by decide), n1]; exact h64) (by unfold StL; rw [nz 60 (by decide), nz 59 (by decide), n1]; exact hS) ((kz (v0.1 102 + 1) 0 0).2.2.1 93 _ (by decide) (by decide) (by omega) |>.trans e93)
    exact hO.bad iz (hb c) (by rw [nz 61 (by decide), n1]; exact c)
/-- a job that has begun goes through -/
def StG [DecidableEq Ob] (u0 : iST) (E : Sp.Env) (Q : Int → iST → Prop) (d : Nat) : Prop := ∀ (v0 v : iST) (s : Sp.Wk) (k tr : Int), InJ u0 E v0 v tr s → JbR v (v0.1 102) k tr 0 → Nd v E k → v.1 61 = 0 → v.1 104 = v0.1 104 → v.1 109 = v0.1 109 → v0.1 102 + 1 + (d : Int) = 60 →
  Owe u0 E Q v0 (Sp.bd (Sp.rwStep E (Sp.rw E d) (cxL v0) (ob v k) (decide (tr ≠ 0))) (fun x => Sp.ret (Sp.fin (decide (tr ≠ 0)) x)) s) → pw_startJob (v0.1 102) (fun w => pw_rewritten_21 Q w) v
theorem rw_succ [DecidableEq Ob] (E : Sp.Env) (d : Nat) (ctx : List Ob) (o : Ob) (tr : Bool) (s : Sp.Wk) : Sp.rw E (d + 1) ctx o tr s = if s.1 = 0 then .error () s else Sp.bd (Sp.rwStep E (Sp.rw E d) ctx o tr) (fun x => Sp.ret (Sp.fin tr x)) (s.1 - 1, s.2) := by
  rw [Sp.rw.eq_2]
  by_cases c : s.1 = 0
  · rw [if_pos c]
    exact bind_err (if_pos c)
  · rw [if_neg c]
    exact bind_ok (if_neg c)
theorem rw_zero [DecidableEq Ob] {u0 : iST} {E : Sp.Env} {Q : Int → iST → Prop} : RwG u0 E Q 0 := by
  intro v s k tr hG hd j0 r0 b0 h64 hS h61 nk cx hok hbad
  unfold pw_beginJob
  intro _ w ew x ex _
  have hk : ∀ n, n ≠ 111 → w.1 n = v.1 n := fun n hn => by rw [ew]; exact if_neg hn
  have kw : RK 0 0 0 v w := by rw [ew]; exact RK_I hG.1 hG.2.1 (by decide) (by decide) (by decide) _ _ _
  rw [hk 61 (by decide)] at ex
  subst ex
  refine ⟨fun _ => ?_, fun z => absurd h61 z⟩
  intro y ey _
  rw [hk 102 (by decide)] at ey
  refine ⟨fun z => absurd (show y = 60 by omega) z, fun _ => ?_⟩
  refine p_fail kw.1.1 kw.1.2.1 (fun z hz hn h2 h => ?_)
  refine hbad z s rfl (hG.tr (kw.1.tr (hz.1.mono f7M_J))) ?_ (by rw [hn 64 (by decide), hk 64 (by decide)]; exact h64) ?_
  · unfold StL
    rw [hn 60 (by decide), hn 59 (by decide), hk 60 (by decide), hk 59 (by decide)]
    exact hS
  · rw [h, hk 61 (by decide), if_neg (not_not_intro h61)]
    decide
theorem rw_begin [DecidableEq Ob] {u0 : iST} {E : Sp.Env} {Q : Int → iST → Prop} {d : Nat} (hst : StG u0 E Q d) : RwG u0 E Q (d + 1) := by
  intro v s k tr hG hd j0 r0 b0 h64 hS h61 nk cx hok hbad
  unfold pw_beginJob
  intro _ w ew x ex _
  have hk : ∀ n, n ≠ 111 → w.1 n = v.1 n := fun n hn => by rw [ew]; exact if_neg hn
  have kw : RK (v.1 102) (v.1 104) (v.1 109) v w := by rw [ew]; exact RK_I hG.1 hG.2.1 (by decide) (by decide) (by decide) _ _ _
  have w111 : w.1 111 = 0 := by rw [ew]; rfl
  have w2 : w.2 = v.2 := by rw [ew]; rfl
  clear ew
  rw [hk 61 (by decide)] at ex
  subst ex
  refine ⟨fun _ => ?_, fun z => absurd h61 z⟩
  intro y ey _
  rw [hk 102 (by decide)] at ey
  refine ⟨fun _ => ?_, fun z => absurd (Decidable.not_not.mp z) (by omega)⟩
  unfold pw_isStep
  intro a ea _ b eb _
  rw [hk 60 (by decide)] at ea
  rw [hk 59 (by decide)] at eb
  refine ⟨fun hne => ?_, fun hne => ?_⟩
  · intro c ec _ _ t et _
    have hs : s.1 ≠ 0 := by intro z; unfold StL at hS; omega
    have kt : RK (v.1 102) (v.1 104) (v.1 109) w t := by rw [et]; exact RK_I kw.1.1 kw.1.2.1 (by decide) (by decide) (by decide) _ _ _
    refine ⟨fun _ => ?_, fun z => absurd z (by decide)⟩
    intro a1 e1 _ _ _ t1 et1 a2 e2 _ _ _ _ t2 et2 a3 e3 _ _ _ t3 et3 a4 e4 _ _ t4 et4
    have q1 : a1 = v.1 102 := by rw [e1, et]; exact hk 102 (by decide)
    have k1 : RK (v.1 102) (v.1 104) (v.1 109) t t1 := by rw [et1]; exact RK_A kt.1.1 kt.1.2.1 (by decide) (by decide) (fun _ _ => by omega) (fun z => by cases z) (fun z => by omega) (fun z => by cases z) (fun z => by cases z)
    have q2 : a2 = v.1 102 := by rw [e2, et1, et]; exact hk 102 (by decide)
    have k2 : RK (v.1 102) (v.1 104) (v.1 109) t1 t2 := by rw [et2]; exact RK_A k1.1.1 k1.1.2.1 (by decide) (by decide) (fun _ _ => by omega) (fun z => by cases z) (fun z => by omega) (fun z => by cases z) (fun z => by cases z)
    have q3 : a3 = v.1 102 := by rw [e3, et2, et1, et]; exact hk 102 (by decide)
    have k3 : RK (v.1 102) (v.1 104) (v.1 109) t2 t3 := by rw [et3]; exact RK_A k2.1.1 k2.1.2.1 (by decide) (by decide) (fun _ _ => by omega) (fun z => by cases z) (fun z => by omega) (fun z => by cases z) (fun z => by cases z)
    have q4 : a4 = v.1 102 := by rw [e4, et3, et2, et1, et]; exact hk 102 (by decide)
    have k4 : RK (v.1 102) (v.1 104) (v.1 109) t3 t4 := by rw [et4]; exact RK_I k3.1.1 k3.1.2.1 (by decide) (by decide) (by decide) _ _ _
    have kk := (((((kw.tr kt (Int.le_refl _) (Int.le_refl _) (Int.le_refl _)).tr k1 (Int.le_refl _) (Int.le_refl _) (Int.le_refl _)).tr k2 (Int.le_refl _) (Int.le_refl _) (Int.le_refl _)).tr k3 (Int.le_refl _) (Int.le_refl _) (Int.le_refl _)).tr k4 (Int.le_refl _) (Int.le_refl _) (Int.le_refl _))
    have nn : ∀ n, n ≠ 111 → n ≠ 60 → n ≠ 102 → t4.1 n = v.1 n := fun n h1 h2 h3 => by
      rw [et4, et3, et2, et1, et]
      exact (if_neg h3).trans ((if_neg h2).trans (hk n h1))
    have m102 : t4.1 102 = v.1 102 + 1 := by rw [et4, q4]; rfl
    have m60 : t4.1 60 = v.1 60 + 1 := by
      rw [et4, et3, et2, et1, et, ec]
      show w.1 60 + 1 = _
      rw [hk 60 (by decide)]
    have m111 : t4.1 111 = 0 := by rw [et4, et3, et2, et1, et]; exact w111
    have m92 : t4.2.1 92 (v.1 102) = k := by rw [et4, et3, et2, et1, q1]; exact if_pos rfl
    have m93 : t4.2.1 93 (v.1 102) = tr := by rw [et4, et3, et2, q2]; exact if_pos rfl
    have m94 : t4.2.1 94 (v.1 102) = 0 := by rw [et4, et3, q3]; exact if_pos rfl
    clear et4 et3 et2 et1 et e1 e2 e3 e4 ec k1 k2 k3 k4 kt
    obtain ⟨nk4, ek4⟩ := nk.mono hG.1 kk.1
    have S4 : StL t4 (s.1 - 1, s.2) := by
      unfold StL at hS ⊢
      rw [m60, nn 59 (by decide) (by decide) (by decide)]
      show v.1 60 + 1 + ((s.1 - 1 : Nat) : Int) = _
      omega
    have hI : InJ u0 E v t4 tr (s.1 - 1, s.2) := ⟨hG, kk, m102, by rw [nn 64 (by decide) (by decide) (by decide)]; exact h64, S4, m93, cx, j0, r0, b0⟩
    refine rw_step0 (by rw [nn 61 (by decide) (by decide) (by decide)]; exact h61) m102 j0 m111 ?_
    refine hst v t4 (s.1 - 1, s.2) k tr hI ⟨m92, m93, m94⟩ nk4 (by rw [nn 61 (by decide) (by decide) (by decide)]; exact h61) (nn 104 (by decide) (by decide) (by decide)) (nn 109 (by decide) (by decide) (by decide)) (by omega) ?_
    have eR := rw_succ E d (cxL v) (ob v k) (decide (tr ≠ 0)) s
    rw [if_neg hs] at eR
    rw [ek4, ← eR]
    exact ⟨hok, hbad⟩
  · refine p_fail kw.1.1 kw.1.2.1 (fun z hz hn h2 h => fun _ => ⟨fun n => absurd rfl n, fun _ => ?_⟩)
    have hs : s.1 = 0 := by unfold StL at hS; have := Decidable.not_not.mp hne; omega
    refine hbad z s (by rw [rw_succ, if_pos hs]) (hG.tr (kw.1.tr (hz.1.mono f7M_J))) ?_ (by rw [hn 64 (by decide), hk 64 (by decide)]; exact h64) ?_
    · unfold StL
      rw [hn 60 (by decide), hn 59 (by decide), hk 60 (by decide), hk 59 (by decide)]
      exact hS
    · rw [h, hk 61 (by decide), if_neg (not_not_intro h61)]
      decide
