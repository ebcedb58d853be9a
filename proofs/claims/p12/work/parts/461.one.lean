-- deps: 460
/-- the first of the terms that are left is evaluated -/
theorem ev_one [DecidableEq Ob] {u0 : iST} {E : Sp.Env} {lim : Int} {Q : Int → iST → Prop} {d : Nat} (ih : EvG u0 E lim Q d) {env : Ob → Ob} {D B c k b : Int} (h0 : 0 ≤ c) (hd : c + 1 + (d : Int) = 300) {a : Ob} {l : List Ob} {v : iST} {s : Sp.Ek} (hG : GZ f7E u0 v) (h85 : v.1 85 = c + 1) (h87 : 0 ≤ v.1 87) (hL : EvL lim v s) (h89 : v.1 89 = 0) (h90 : v.1 90 = 0) (hF : EvR v c k b D B 0)
    (r0 : 0 ≤ v.2.1 80 c) (r1 : v.2.1 80 c < v.1 8) (er : ob v (v.2.1 80 c) = Ob.ofList (a :: l)) (ta : Tm v a) (wa : Ob.wt (Sp.arOf E) a) (va : EvV v D B env a)
    (hq : ∀ r s1 z, Sp.ev E d env a s = .ok (ob z r) s1 → EvF c (v.1 87) v z → z.1 85 = c + 1 → z.1 87 = v.1 87 → EvL lim z s1 → z.1 89 = 0 → z.1 90 = 1 → z.1 91 = r → 0 ≤ r → r < z.1 8 → EvR z c k b D B 0 → pw_evaluated_29 Q lim z)
    (hf : ∀ e s' w, Sp.ev E d env a s = .error e s' → GZ f7E u0 w → e ≠ 0 → w.1 89 = e → w.1 60 + (s'.1 : Int) = w.1 59 → pw_evaluated_29 Q lim w) :
    pw_evaluated_29 Q lim v := by
  have hT := hG.1
  have hU := hG.2.1
  have er' : ob v (v.2.1 80 c) = .pr a (Ob.ofList l) := er
  obtain ⟨l0, l1, q0, q1, _, _, ep⟩ := ob_lft hT r0 r1 (by rw [er']; rfl)
  rw [er'] at ep
  have ea := (Ob.pr.inj ep).1
  have eb := (Ob.pr.inj ep).2
  have hr0 : v.2.1 80 c ≠ 0 := by
    intro z
    have := (kat hT hU 0 (by decide) (by decide) rfl r0 r1).mp z
    rw [er'] at this
    cases this
  obtain ⟨f1, f2, f3, f4, f5⟩ := hF
  refine fo_w_evaluated_29 ?_
  unfold pw_evaluated_29b
  intro x ex _
  subst ex
  refine ⟨fun z => absurd h89 z, fun _ => ?_⟩
  intro x ex _
  subst ex
  refine ⟨fun _ => ?_, fun z => absurd h90 z⟩
  unfold pw_evaluated_50
  intro x ex _
  subst ex
  refine ⟨fun _ => ?_, fun z => absurd h90 z⟩
  unfold pw_goOn
  intro x ex _ _ _ _ y ey _
  subst ex ey
  have e1 : v.1 85 - 1 = c := by omega
  rw [e1]
  refine ⟨fun z => absurd z hr0, fun _ => ?_⟩
  intro _ _ y1 ey1 _ _ _ y2 ey2 _ _ _ y3 ey3 _ _ _ y4 ey4 _ _ _ w ew _ _ y5 ey5 _ _ _ y6 ey6 _
  subst ey1 ey2 ey3 ey4
  have gw : EvF c (v.1 87) v w := by subst ew; exact EvF_A hT hU (by decide) (by decide) (fun _ => Int.le_refl _) (fun z => by cases z)
  have w1 : w.1 = v.1 := by rw [ew]; rfl
  have w80 : w.2.1 80 c = v.2.1 1 (v.2.1 80 c) := by rw [ew]; exact if_pos rfl
  have wF : EvR w c k b D B 0 := by rw [ew]; exact ⟨f1, f2, f3, f4, f5⟩
  have e5 : y5 = D := by rw [ey5]; exact wF.2.2.1
  have e6 : y6 = B := by rw [ey6]; exact wF.2.2.2.1
  have w86 : w.2.1 86 = v.2.1 86 := by rw [ew]; rfl
  clear ew ey5 ey6
  subst e5 e6
  have w85 : w.1 85 = c + 1 := by rw [w1]; exact h85
  have w87 : w.1 87 = v.1 87 := by rw [w1]
  have hlw := gw.1.le
  have ga : EvF c (v.1 87) v w := gw
  refine ih env a w s _ y5 y6 (hG.tr gw.1) (by omega) (by omega) (by omega) (by unfold EvL; rw [w1]; exact hL) (by rw [w1]; exact h89) l0 (by omega) (by rw [gw.1.ob hT l0 (by omega)]; exact ea.symm) (ta.mono gw.1 hT) wa (va.mono hT gw (by omega)) (fun r s1 z hev gz z85 z87 zL z89 z90 z91 zr0 zr1 => ?_) hf
  exact hq r s1 z hev (gw.tr gz (by omega) (by omega)) (by omega) (by omega) zL z89 z90 z91 zr0 zr1 (wF.keep gz (show c < w.1 85 by omega))
