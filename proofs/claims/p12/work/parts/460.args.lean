-- deps: 459
theorem evArgs_cons [DecidableEq Ob] {r : Ob → Sp.ME Ob} {a : Ob} {l : List Ob} : Sp.evArgs r (a :: l) = Sp.bd (r a) (fun v => Sp.bd (Sp.evArgs r l) (fun vs => fun s => .ok (v :: vs) s)) := rfl
theorem ev_args [DecidableEq Ob] {u0 : iST} {E : Sp.Env} {lim : Int} {Q : Int → iST → Prop} {d : Nat} (ih : EvG u0 E lim Q d) {env : Ob → Ob} {D B c k b : Int} (h0 : 0 ≤ c) (hd : c + 1 + (d : Int) = 300) : ∀ (l : List Ob) (v : iST) (s : Sp.Ek), GZ f7E u0 v → v.1 85 = c + 1 → 0 ≤ v.1 87 → EvL lim v s → v.1 89 = 0 → v.1 90 = 0 → EvR v c k b D B 0 → 0 ≤ k → k < v.1 8 → v.2.1 0 k ≠ 3 →
    0 ≤ v.2.1 80 c → v.2.1 80 c < v.1 8 → ob v (v.2.1 80 c) = Ob.ofList l → (∀ x, x ∈ l → Tm v x ∧ Ob.wt (Sp.arOf E) x ∧ EvV v D B env x) →
    (∀ vs s' w, Sp.evArgs (Sp.ev E d env) l s = .ok vs s' → EvF c (v.1 87) v w → w.1 85 = c + 1 → w.1 87 = v.1 87 + (l.length : Int) → w.2.1 80 c = 0 → EvR w c k b D B 0 → EvL lim w s' → w.1 89 = 0 → w.1 90 = 0 → vs = vl w (v.1 87) l.length → EvS w (v.1 87) l.length → pw_evaluated_29 Q lim w) →
    (∀ e s' w, Sp.evArgs (Sp.ev E d env) l s = .error e s' → GZ f7E u0 w → e ≠ 0 → w.1 89 = e → w.1 60 + (s'.1 : Int) = w.1 59 → pw_evaluated_29 Q lim w) →
    pw_evaluated_29 Q lim v
  | [], v, s, hG, h85, h87, hL, h89, h90, hF, k0, k1, k3, r0, r1, er, hx, hq, hf => by
    have z0 := (kat hG.1 hG.2.1 0 (by decide) (by decide) rfl r0 r1).mpr er
    exact hq [] s v rfl (EvF.rf hG.1 hG.2.1 _ _) h85 (by simp) z0 hF hL h89 h90 rfl (fun i i0 i1 => by simp at i1; omega)
  | a :: l, v, s, hG, h85, h87, hL, h89, h90, hF, k0, k1, k3, r0, r1, er, hx, hq, hf => by
    have hT := hG.1
    have hU := hG.2.1
    have er' : ob v (v.2.1 80 c) = .pr a (Ob.ofList l) := er
    obtain ⟨l0, l1, q0, q1, _, _, ep⟩ := ob_lft hT r0 r1 (by rw [er']; rfl)
    rw [er'] at ep
    have ea := (Ob.pr.inj ep).1
    have eb := (Ob.pr.inj ep).2
    have hr0 : v.2.1 80 c ≠ 0 := by
      intro z
      have := (kat hT hU 0 (by decide) (by decide) rfl r0 r1).mp z
      rw [er'] at this
      cases this
    obtain ⟨f1, f2, f3, f4, f5⟩ := hF
    obtain ⟨ta, wa, va⟩ := hx a List.mem_cons_self
    refine fo_w_evaluated_29 ?_
    unfold pw_evaluated_29b
    intro x ex _
    subst ex
    refine ⟨fun z => absurd h89 z, fun _ => ?_⟩
    intro x ex _
    subst ex
    refine ⟨fun _ => ?_, fun z => absurd h90 z⟩
    unfold pw_evaluated_50
    intro x ex _
    subst ex
    refine ⟨fun _ => ?_, fun z => absurd h90 z⟩
    unfold pw_goOn
    intro x ex _ _ _ _ y ey _
    subst ex ey
    have e1 : v.1 85 - 1 = c := by omega
    rw [e1]
    refine ⟨fun z => absurd z hr0, fun _ => ?_⟩
    intro _ _ y1 ey1 _ _ _ y2 ey2 _ _ _ y3 ey3 _ _ _ y4 ey4 _ _ _ w ew _ _ y5 ey5 _ _ _ y6 ey6 _
    subst ey1 ey2 ey3 ey4
    have gw : EvF c (v.1 87) v w := by subst ew; exact EvF_A hT hU (by decide) (by decide) (fun _ => Int.le_refl _) (fun z => by cases z)
    have w1 : w.1 = v.1 := by rw [ew]; rfl
    have w80 : w.2.1 80 c = v.2.1 1 (v.2.1 80 c) := by rw [ew]; exact if_pos rfl
    have wF : EvR w c k b D B 0 := by rw [ew]; exact ⟨f1, f2, f3, f4, f5⟩
    have e5 : y5 = D := by rw [ey5]; exact wF.2.2.1
    have e6 : y6 = B := by rw [ey6]; exact wF.2.2.2.1
    have w86 : w.2.1 86 = v.2.1 86 := by rw [ew]; rfl
    clear ew ey5 ey6
    subst e5 e6
    have w85 : w.1 85 = c + 1 := by rw [w1]; exact h85
    have w87 : w.1 87 = v.1 87 := by rw [w1]
    have hlw := gw.1.le
    have ga : EvF c (v.1 87) v w := gw
    refine ih env a w s _ y5 y6 (hG.tr gw.1) (by omega) (by omega) (by omega) (by unfold EvL; rw [w1]; exact hL) (by rw [w1]; exact h89) l0 (by omega) (by rw [gw.1.ob hT l0 (by omega)]; exact ea.symm) (ta.mono gw.1 hT) wa (va.mono hT gw (by omega)) (fun r s1 z hev gz z85 z87 zL z89 z90 z91 zr0 zr1 => ?_) (fun e s' z hev gz he z89 zs => hf e s' z (by rw [evArgs_cons, bind_err hev]) gz he z89 zs)
    have gvz : EvF c (v.1 87) v z := gw.tr gz (by omega) (by omega)
    have zF := wF.keep gz (show c < w.1 85 by omega)
    have z80 : z.2.1 80 c = v.2.1 1 (v.2.1 80 c) := (gz.2.1 80 c (by decide) (by decide) (by omega)).trans w80
    have zk : z.2.1 0 k = v.2.1 0 k := (gvz.1.2.2.1.2.1 k k0 k1).1
    have hlz := gvz.1.le
    have zF' := zF
    obtain ⟨z79, z81, z82, z83, z84⟩ := zF
    refine fo_w_evaluated_29 ?_
    unfold pw_evaluated_29b
    intro x ex _
    subst ex
    refine ⟨fun z => absurd z89 z, fun _ => ?_⟩
    intro x ex _
    subst ex
    refine ⟨fun z => by omega, fun _ => ?_⟩
    intro x ex _
    subst ex
    refine ⟨fun z => by omega, fun _ => ?_⟩
    unfold pw_evaluated_50
    intro x ex _
    subst ex
    refine ⟨fun z => by omega, fun _ => ?_⟩
    unfold pw_takeValue
    intro x ex _ _ _ _ y ey _
    subst ex ey
    have e2 : z.1 85 - 1 = c := by omega
    rw [e2, z84]
    refine ⟨fun _ => ?_, fun z => absurd rfl z⟩
    intro _ _ y1 ey1 _ _ _ y2 ey2 _
    rw [z79] at ey1
    rw [ey1] at ey2
    subst ey2
    refine ⟨fun _ => ?_, fun hz => absurd (zk.symm.trans (Decidable.not_not.mp hz)) k3⟩
    intro y1 ey1 _ y2 ey2 _ _ _ t1 et1 y3 ey3 _ _ t2 et2 _ t3 et3
    subst ey1 ey2 ey3
    have hTz := gz.1.1
    have hUz := gz.1.2.1
    have g1 : EvF (c + 1) (z.1 87) z t1 := by subst et1; exact EvF_A hTz hUz (by decide) (by decide) (fun n => absurd rfl n) (fun _ => Int.le_refl _)
    have g2 : EvF (c + 1) (z.1 87) t1 t2 := by subst et2; exact EvF_I g1.1.1 g1.1.2.1 (by decide) (by decide) _ _
    have g3 : EvF (c + 1) (z.1 87) t2 t3 := by subst et3; exact EvF_I g2.1.1 g2.1.2.1 (by decide) (by decide) _ _
    have gt := (g1.tr g2 (Int.le_refl _) (Int.le_refl _)).tr g3 (Int.le_refl _) (Int.le_refl _)
    have t86 : t3.2.1 86 (v.1 87) = r := by
      rw [et3, et2, et1, ← z91]
      show (if v.1 87 = z.1 87 then z.1 91 else _) = _
      rw [if_pos (by omega)]
    have t85 : t3.1 85 = c + 1 := by rw [et3, et2, et1]; show z.1 85 = _; omega
    have t87 : t3.1 87 = v.1 87 + 1 := by rw [et3, et2, et1]; show z.1 87 + 1 = _; omega
    have t89 : t3.1 89 = 0 := by rw [et3, et2, et1]; exact z89
    have t90 : t3.1 90 = 0 := by rw [et3]; rfl
    have tL : EvL lim t3 s1 := by
      unfold EvL
      have a1 : t3.1 60 = z.1 60 := by rw [et3, et2, et1]; rfl
      have a2 : t3.1 59 = z.1 59 := by rw [et3, et2, et1]; rfl
      have a3 : t3.1 88 = z.1 88 := by rw [et3, et2, et1]; rfl
      rw [a1, a2, a3]; exact zL
    clear et1 et2 et3
    have gvt : EvF c (v.1 87) v t3 := gvz.tr gt (by omega) (by omega)
    have hlt := gt.1.le
    have t80 : t3.2.1 80 c = v.2.1 1 (v.2.1 80 c) := (gt.2.1 80 c (by decide) (by decide) (by omega)).trans z80
    have tr0 : 0 ≤ r ∧ r < t3.1 8 ∧ ob t3 r = ob z r := ⟨zr0, by omega, gt.1.ob hTz zr0 zr1⟩
    refine ev_args (env := env) ih h0 hd l t3 s1 (hG.tr gvt.1) t85 (by omega) tL t89 t90 (zF'.keep gt (by omega)) k0 (by omega) (by rw [(gt.1.2.2.1.2.1 k k0 (by omega)).1, zk]; exact k3) (by rw [t80]; exact q0) (by rw [t80]; omega) (by rw [t80, gvt.1.ob hT q0 (by omega)]; exact eb.symm) (fun x hxl => ?_) (fun vs s' w' hev2 gw' w85' w87' w80' wF' wL' w89' w90' evs hvs => ?_) (fun e s' w' hev2 => ?_)
    · obtain ⟨p1, p2, p3⟩ := hx x (List.mem_cons_of_mem _ hxl)
      exact ⟨p1.mono gvt.1 hT, p2, p3.mono hT gvt (by omega)⟩
    · rw [t87] at gw' w87' evs hvs
      have r86 : w'.2.1 86 (v.1 87) = r := (gw'.2.2 _ (by omega)).trans t86
      have ro : ob w' r = ob z r := (gw'.1.ob gvt.1.1 tr0.1 tr0.2.1).trans tr0.2.2
      refine hq (ob z r :: vs) s' w' ?_ (gvt.tr gw' (Int.le_refl _) (by omega)) w85' (by simp; omega) w80' wF' wL' w89' w90' ?_ (fun i i0 i1 => ?_)
      · rw [evArgs_cons, bind_ok hev, bind_ok hev2]
      · rw [List.length_cons, vl_cons, r86, ro, evs]
      · by_cases e : i = v.1 87
        · subst e
          rw [r86]
          exact ⟨zr0, by have := gw'.1.le; omega⟩
        · exact hvs i (by omega) (by simp at i1; omega)
    · exact hf e s' w' (by rw [evArgs_cons, bind_ok hev, bind_err hev2])
