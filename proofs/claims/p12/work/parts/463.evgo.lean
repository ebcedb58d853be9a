-- deps: 462
theorem self_part [DecidableEq Ob] (o : Ob) : o ∈ Ob.parts o := by
  cases o with
  | var x => exact List.mem_singleton.mpr rfl
  | op a b =>
    show Lean.Data.AC.Expr.op a b ∈ (if a = Ob.quote then [Ob.pr a b] else Ob.pr a b :: Ob.ptM true b)
    split
    · exact List.mem_singleton.mpr rfl
    · exact List.mem_cons_self
theorem Tm_row [DecidableEq Ob] {u : iST} : ∀ (l : List Ob) (x : Ob), tmM u true (Ob.ofList l) → x ∈ l → Tm u x
  | [], _, _, h => by cases h
  | a :: l, x, h, hx => by
    rcases List.mem_cons.mp hx with e | e
    · rw [e]; exact h.1
    · exact Tm_row l x h.2 e
theorem ev_step [DecidableEq Ob] {u0 : iST} {E : Sp.Env} (hT0 : TI u0) (hD : DOk u0 E) (h57 : u0.1 57 = -1) (hW : Sp.DWf E) (lim : Int) (Q : Int → iST → Prop) (d : Nat) (hprev : ∀ d', d = d' + 1 → EvG u0 E lim Q d') : EvG u0 E lim Q d := by
    intro env o v s k D B hG hd c0 b0 hL h89 k0 k1 ek tm wo va hok hbad
    have hT := hG.1
    have hU := hG.2.1
    unfold pw_beginEval
    intro _ v1 ev1
    have g1 : EvF (v.1 85) (v.1 87) v v1 := by subst ev1; exact EvF_I hT hU (by decide) (by decide) _ _
    have n1 : ∀ j, j ≠ 90 → v1.1 j = v.1 j := fun j hj => by rw [ev1]; exact if_neg hj
    have n90 : v1.1 90 = 1 := by rw [ev1]; rfl
    have r1 : v1.2 = v.2 := by rw [ev1]; rfl
    clear ev1
    have v8 : v1.1 8 = v.1 8 := n1 8 (by decide)
    have ek1 : ob v1 k = o := (g1.1.ob hT k0 k1).trans ek
    have tm1 : Tm v1 (ob v1 k) := by rw [ek1]; exact tm.mono g1.1 hT
    have hT1 := g1.1.1
    have hU1 := g1.1.2.1
    have va1 : EvV v1 D B env o := va.mono hT g1 (by rw [n1 87 (by decide)]; omega)
    have L1 : EvL lim v1 s := by unfold EvL; rw [n1 60 (by decide), n1 59 (by decide), n1 88 (by decide)]; exact hL
    refine p_isConstant hT1 hU1 k0 (by omega) tm1 (fun r hr => ⟨fun hc => ?_, fun hc => ?_⟩)
    · have hnc := hr.f hc
      rw [ek1] at hnc
      refine p_isPair hT1 k0 (by omega) (fun r2 hr2 => ⟨fun hc2 => ?_, fun hc2 => ?_⟩)
      · have hp := hr2.t hc2
        rw [ek1] at hp
        have hcall : o.isCall = true := by
          rcases Ob.kinds o with z | z | z
          · rw [z.1] at hnc; cases hnc
          · exact z.2.1
          · cases o with
            | var x => cases hp
            | op a b => have := z.2.2; cases this
        intro _ v2 ev2 x ex _
        subst ex
        have g2 : EvF (v.1 85) (v.1 87) v1 v2 := by subst ev2; exact EvF_I hT1 hU1 (by decide) (by decide) _ _
        have n2 : ∀ j, j ≠ 90 → v2.1 j = v.1 j := fun j hj => by rw [ev2]; exact (if_neg hj).trans (n1 j hj)
        have n290 : v2.1 90 = 0 := by rw [ev2]; rfl
        have r2' : v2.2 = v.2 := by rw [ev2]; exact r1
        clear ev2
        have g12 : EvF (v.1 85) (v.1 87) v v2 := g1.tr g2 (Int.le_refl _) (Int.le_refl _)
        rw [n2 85 (by decide)]
        have fault : ∀ c w, w = iI v2 89 c → c ≠ 0 → Sp.ev E d env o s = .error c s → pw_evaluated_29 Q lim w := by
          intro c w ew hc he
          have gw : EvF (v.1 85) (v.1 87) v2 w := by subst ew; exact EvF_I g2.1.1 g2.1.2.1 (by decide) (by decide) _ _
          refine hbad c s w he (hG.tr (g12.1.tr gw.1)) hc (by rw [ew]; rfl) ?_
          have a1 : w.1 60 = v.1 60 := by rw [ew]; exact n2 60 (by decide)
          have a2 : w.1 59 = v.1 59 := by rw [ew]; exact n2 59 (by decide)
          rw [a1, a2]
          exact hL.1
        by_cases d0 : d = 0
        · subst d0
          refine ⟨fun z => by omega, fun _ w ew => fault 2 w ew (by decide) (ev_deep hnc hcall)⟩
        · obtain ⟨d, rfl⟩ : ∃ d', d = d' + 1 := ⟨d - 1, by omega⟩
          have ih := hprev d rfl
          refine ⟨fun _ => ?_, fun z => absurd z (not_not_intro (by omega))⟩
          have go : s.2.1 ≠ 0 → pw_beginEval_109 (fun w => pw_evaluated_29 Q lim w) k D B v2 := by
            intro hown
            unfold pw_beginEval_109
            intro x ex _ y ey _
            subst ex ey
            refine ⟨fun hne => ?_, fun hne w ew => ?_⟩
            · intro x ex _ _ w1 ew1 y1 ey1 _ _ w2 ew2 y2 ey2 _ _ _ w3 ew3 y3 ey3 _ _ _ y4 ey4 _ _ _ w4 ew4 y5 ey5 _ y6 ey6 _ _ _ w5 ew5 y7 ey7 _ _ _ w6 ew6 y8 ey8 _ _ _ w7 ew7 y9 ey9 _ _ _ _ w8 ew8 y10 ey10 _ _ w9 ew9
              have e85 : v2.1 85 = v.1 85 := n2 85 (by decide)
              have hl : s.1 ≠ 0 := by
                intro z
                rw [n2 60 (by decide), n2 59 (by decide)] at hne
                have := hL.1
                omega
              have f1 : EvF (v.1 85) (v.1 87) v2 w1 := by rw [ew1]; exact EvF_I g2.1.1 g2.1.2.1 (by decide) (by decide) _ _
              have f2 : EvF (v.1 85) (v.1 87) w1 w2 := by rw [ew2]; exact EvF_I f1.1.1 f1.1.2.1 (by decide) (by decide) _ _
              have c2 : y2 = v.1 85 := by rw [ey2, ew2, ew1]; exact e85
              have f3 : EvF (v.1 85) (v.1 87) w2 w3 := by rw [ew3]; exact EvF_A f2.1.1 f2.1.2.1 (by decide) (by decide) (fun _ => by omega) (fun z => by cases z)
              have c3 : y3 = v.1 85 := by rw [ey3, ew3, ew2, ew1]; exact e85
              have f4 : EvF (v.1 85) (v.1 87) w3 w4 := by rw [ew4]; exact EvF_A f3.1.1 f3.1.2.1 (by decide) (by decide) (fun _ => by omega) (fun z => by cases z)
              have c5 : y5 = v.1 85 := by rw [ey5, ew4, ew3, ew2, ew1]; exact e85
              have f5 : EvF (v.1 85) (v.1 87) w4 w5 := by rw [ew5]; exact EvF_A f4.1.1 f4.1.2.1 (by decide) (by decide) (fun _ => by omega) (fun z => by cases z)
              have c7 : y7 = v.1 85 := by rw [ey7, ew5, ew4, ew3, ew2, ew1]; exact e85
              have f6 : EvF (v.1 85) (v.1 87) w5 w6 := by rw [ew6]; exact EvF_A f5.1.1 f5.1.2.1 (by decide) (by decide) (fun _ => by omega) (fun z => by cases z)
              have c8 : y8 = v.1 85 := by rw [ey8, ew6, ew5, ew4, ew3, ew2, ew1]; exact e85
              have f7 : EvF (v.1 85) (v.1 87) w6 w7 := by rw [ew7]; exact EvF_A f6.1.1 f6.1.2.1 (by decide) (by decide) (fun _ => by omega) (fun z => by cases z)
              have c9 : y9 = v.1 85 := by rw [ey9, ew7, ew6, ew5, ew4, ew3, ew2, ew1]; exact e85
              have f8 : EvF (v.1 85) (v.1 87) w7 w8 := by rw [ew8]; exact EvF_A f7.1.1 f7.1.2.1 (by decide) (by decide) (fun _ => by omega) (fun z => by cases z)
              have c10 : y10 = v.1 85 := by rw [ey10, ew8, ew7, ew6, ew5, ew4, ew3, ew2, ew1]; exact e85
              have f9 : EvF (v.1 85) (v.1 87) w8 w9 := by rw [ew9]; exact EvF_I f8.1.1 f8.1.2.1 (by decide) (by decide) _ _
              have gF : EvF (v.1 85) (v.1 87) v w9 := ((((((((g12.tr f1 (Int.le_refl _) (Int.le_refl _)).tr f2 (Int.le_refl _) (Int.le_refl _)).tr f3 (Int.le_refl _) (Int.le_refl _)).tr f4 (Int.le_refl _) (Int.le_refl _)).tr f5 (Int.le_refl _) (Int.le_refl _)).tr f6 (Int.le_refl _) (Int.le_refl _)).tr f7 (Int.le_refl _) (Int.le_refl _)).tr f8 (Int.le_refl _) (Int.le_refl _)).tr f9 (Int.le_refl _) (Int.le_refl _)
              have q6 : y6 = v.1 87 := by rw [ey6, ew4, ew3, ew2, ew1]; exact n2 87 (by decide)
              have q4 : y4 = v.2.1 1 k := by rw [ey4, ew3, ew2, ew1]; show v2.2.1 1 k = _; rw [r2']
              have F79 : w9.2.1 79 (v.1 85) = k := by rw [ew9, ew8, ew7, ew6, ew5, ew4, ew3]; show (if v.1 85 = y2 then k else _) = k; rw [if_pos c2.symm]
              have F80 : w9.2.1 80 (v.1 85) = v.2.1 1 k := by rw [ew9, ew8, ew7, ew6, ew5, ew4]; show (if v.1 85 = y3 then y4 else _) = _; rw [if_pos c3.symm, q4]
              have F81 : w9.2.1 81 (v.1 85) = v.1 87 := by rw [ew9, ew8, ew7, ew6, ew5]; show (if v.1 85 = y5 then y6 else _) = _; rw [if_pos c5.symm, q6]
              have F82 : w9.2.1 82 (v.1 85) = D := by rw [ew9, ew8, ew7, ew6]; show (if v.1 85 = y7 then D else _) = _; rw [if_pos c7.symm]
              have F83 : w9.2.1 83 (v.1 85) = B := by rw [ew9, ew8, ew7]; show (if v.1 85 = y8 then B else _) = _; rw [if_pos c8.symm]
              have F84 : w9.2.1 84 (v.1 85) = 0 := by rw [ew9, ew8]; show (if v.1 85 = y9 then (0 : Int) else _) = _; rw [if_pos c9.symm]
              have m85 : w9.1 85 = v.1 85 + 1 := by rw [ew9, c10]; rfl
              have m87 : w9.1 87 = v.1 87 := by rw [ew9, ew8, ew7, ew6, ew5, ew4, ew3, ew2, ew1]; exact n2 87 (by decide)
              have m89 : w9.1 89 = 0 := by rw [ew9, ew8, ew7, ew6, ew5, ew4, ew3, ew2, ew1]; exact (n2 89 (by decide)).trans h89
              have m90 : w9.1 90 = 0 := by rw [ew9, ew8, ew7, ew6, ew5, ew4, ew3, ew2, ew1]; exact n290
              have m60 : w9.1 60 = v.1 60 + 1 := by rw [ew9, ew8, ew7, ew6, ew5, ew4, ew3, ew2, ew1, ex]; show v2.1 60 + 1 = _; rw [n2 60 (by decide)]
              have m59 : w9.1 59 = v.1 59 := by rw [ew9, ew8, ew7, ew6, ew5, ew4, ew3, ew2, ew1]; exact n2 59 (by decide)
              have m88 : w9.1 88 = v.1 88 - 1 := by rw [ew9, ew8, ew7, ew6, ew5, ew4, ew3, ew2, ey1, ew1]; show v2.1 88 - 1 = _; rw [n2 88 (by decide)]
              clear ew9 ew8 ew7 ew6 ew5 ew4 ew3 ew2 ew1 ey1 ey2 ey3 ey4 ey5 ey6 ey7 ey8 ey9 ey10 f1 f2 f3 f4 f5 f6 f7 f8 f9
              have mL : EvL lim w9 (s.1 - 1, s.2.1 - 1, s.2.2) := by
                unfold EvL at hL ⊢
                rw [m60, m59, m88]
                obtain ⟨a1, a2, a3⟩ := hL
                refine ⟨?_, fun z => ?_, fun z => ?_⟩
                · show v.1 60 + 1 + ((s.1 - 1 : Nat) : Int) = v.1 59
                  omega
                · have := a2 z
                  show v.1 88 - 1 = ((s.2.1 - 1 : Nat) : Int)
                  omega
                · have := a3 z
                  show s.1 - 1 < s.2.1 - 1
                  omega
              have mF : EvR w9 (v.1 85) k (v.1 87) D B 0 := ⟨F79, F81, F82, F83, F84⟩
              obtain ⟨f, l, eo, hq, hs, har, hl2⟩ := Ob.wt_call wo hcall
              have ek9 : ob w9 k = o := (gF.1.ob hT k0 k1).trans ek
              have tm9 : Tm w9 o := tm.mono gF.1 hT
              have hle := gF.1.le
              have vx : ∀ x, x ∈ l → Tm w9 x ∧ Ob.wt (Sp.arOf E) x ∧ EvV w9 D B env x := by
                intro x hx
                refine ⟨?_, hl2 x hx, ?_⟩
                · rw [eo] at tm9
                  exact Tm_row l x (Tm_call tm9 hq).2.1 hx
                · have := va.mono hT gF (by omega)
                  rw [eo] at this
                  exact this.sub hq hx
              have pop : ∀ {r : Int} {s' : Sp.Ek} {w : iST}, Sp.ev E (d + 1) env o s = .ok (ob w r) s' → EvF (v.1 85) (v.1 87) w9 w → w.1 85 = v.1 85 → w.1 87 = v.1 87 → EvL lim w s' → w.1 89 = 0 → w.1 90 = 1 → w.1 91 = r → 0 ≤ r → r < w.1 8 → pw_evaluated_29 Q lim w :=
                fun a1 a2 a3 a4 a5 a6 a7 a8 a9 a10 => hok _ _ _ a1 (gF.tr a2 (Int.le_refl _) (Int.le_refl _)) a3 a4 a5 a6 a7 a8 a9 a10
              by_cases hif : f = Ob.ifS
              · rw [hif] at eo har
                rw [arOf_ifS] at har
                match l, har, eo, vx with
                | [x, y, z], har, eo, vx =>
                  have hev := ev_if (E := E) (env := env) (d := d) hnc hcall hown hl (by rw [eo]; rfl)
                  have e1 : o.item 1 = x := by rw [eo]; rfl
                  have e23 : ∀ a : Ob, o.item (if a = Ob.nil then 3 else 2) = if a = Ob.nil then z else y := by
                    intro a
                    by_cases c : a = Ob.nil
                    · rw [if_pos c, if_pos c, eo]; rfl
                    · rw [if_neg c, if_neg c, eo]; rfl
                  rw [e1] at hev
                  simp only [e23] at hev
                  refine ev_goIf ih c0 (by omega) (hG.tr gF.1) m85 m87 b0 mL m89 m90 mF k0 (by omega) (by rw [ek9]; exact eo) ?_ vx (fun r s' w h a2 a3 a4 a5 a6 a7 a8 a9 a10 => pop (hev.trans h) a2 a3 a4 a5 a6 a7 a8 a9 a10) (fun e s' w h => hbad e s' w (hev.trans h))
                  rw [F80, (gF.1.2.2.1.2.1 k k0 k1).2.1]
                | [], har, _, _ => simp at har
                | [_], har, _, _ => simp at har
                | [_, _], har, _, _ => simp at har
                | _ :: _ :: _ :: _ :: _, har, _, _ => simp at har; omega
              · have hev := ev_call (E := E) (env := env) (d := d) hnc hcall hown hl (by rw [eo]; exact hif)
                have e1 : Ob.toList (Ob.rgt o) = l := by rw [eo]; exact Ob.toList_ofList l
                have e2 : o.lft = f := by rw [eo]; rfl
                rw [e1, e2] at hev
                obtain ⟨l0, l1, q0, q1, _, _, ep⟩ := ob_lft gF.1.1 k0 (by omega) (by rw [ek9, eo]; rfl)
                rw [ek9, eo] at ep
                have ea := (Ob.pr.inj ep).1
                have eb := (Ob.pr.inj ep).2
                have e80 : w9.2.1 80 (v.1 85) = w9.2.1 1 k := by rw [F80, (gF.1.2.2.1.2.1 k k0 k1).2.1]
                refine ev_args (env := env) ih c0 (by omega) l w9 _ (hG.tr gF.1) m85 (by omega) mL m89 m90 mF k0 (by omega) (fun z => hif (ea.trans ((kat gF.1.1 gF.1.2.1 3 (by decide) (by decide) rfl l0 (by omega)).mp z))) (by rw [e80]; exact q0) (by rw [e80]; omega) (by rw [e80]; exact eb.symm) vx (fun vs s' w h gw w85 w87 w80 wF wL w89 w90 evs hvs => ?_) (fun e s' w h => hbad e s' w (hev.trans (bind_err h)))
                rw [m87] at gw w87 evs hvs
                have hev2 : Sp.ev E (d + 1) env o s = Sp.evCall E d f (vl w (v.1 87) l.length) s' := by rw [hev, bind_ok h, evs]
                have hlw := gw.1.le
                have ekw : ob w k = .pr f (Ob.ofList l) := (gw.1.ob gF.1.1 k0 (by omega)).trans (ek9.trans eo)
                exact ev_goCall hT0 hD h57 hW ih c0 (by omega) (hG.tr (gF.1.tr gw.1)) w85 b0 w87 wL w89 w90 wF w80 k0 (by omega) (by rw [ekw]; rfl) (by rw [ekw]; rfl) hif har hvs (fun r s2 z h2 a2 a3 a4 a5 a6 a7 a8 a9 a10 => pop (hev2.trans h2) (gw.tr a2 (Int.le_refl _) (Int.le_refl _)) a3 a4 a5 a6 a7 a8 a9 a10) (fun e s2 z h2 => hbad e s2 z (hev2.trans h2))
            · refine fault 1 w ew (by decide) (ev_fuel hnc hcall hown ?_)
              rw [n2 60 (by decide), n2 59 (by decide)] at hne
              have := hL.1
              omega
          refine ⟨fun hz => go ?_, fun hz => ?_⟩
          · have := hL.2.2 hz
            omega
          · intro x ex _
            subst ex
            rw [n2 88 (by decide), hL.2.1 hz]
            exact ⟨fun hy => go (by omega), fun hy w ew => fault (-1) w ew (by decide) (ev_own hnc hcall (by omega))⟩
      · have hp := hr2.f (Decidable.not_not.mp hc2)
        rw [ek1] at hp
        have hkind : o.isCall = false ∧ o.isVar = true := by
          rcases Ob.kinds o with z | z | z
          · rw [z.1] at hnc; cases hnc
          · cases o with
            | var x => have := z.2.1; cases this
            | op a b => cases hp
          · exact z.2
        obtain ⟨kk, ⟨a1, a2, a3⟩, b1, d1, d2, d3, d4⟩ := va1 o (self_part o) hkind.2
        refine pw_beginEval_34_i (fun x1 x2 x3 x5 w => w = v1 ∧ x1 = k ∧ x2 = D ∧ x3 = B ∧ 0 ≤ x5 ∧ x5 ≤ (kk : Int)) ?_ ⟨rfl, rfl, rfl, rfl, by omega, by omega⟩
        intro x1 x2 x3 x5 w hI
        obtain ⟨i1, i2, i3, i4, i5, i6⟩ := hI
        rw [i1, i2, i3, i4]
        unfold pw_beginEval_34b
        intro _ _ _ _ x ex _
        subst ex
        refine ⟨fun hz => ?_, fun hz _ => ⟨rfl, rfl, rfl, rfl, by omega, ?_⟩⟩
        · have e5 : x5 = (kk : Int) := by
            by_cases c : x5 = (kk : Int)
            · exact c
            · obtain ⟨_, _, h3⟩ := b1 x5.toNat (by omega)
              rw [Int.toNat_of_nonneg i5, hz] at h3
              exact absurd ek1 h3
          rw [e5]
          intro _ _ _ y ey _ z ez
          subst ey
          have gz : EvF (v.1 85) (v.1 87) v1 z := by subst ez; exact EvF_I hT1 hU1 (by decide) (by decide) _ _
          have nz : ∀ j, j ≠ 91 → z.1 j = v1.1 j := fun j hj => by rw [ez]; exact if_neg hj
          have z91 : z.1 91 = v1.2.1 86 (B + (kk : Int)) := by rw [ez]; rfl
          clear ez
          refine hok _ s z ?_ (g1.tr gz (Int.le_refl _) (Int.le_refl _)) ((nz 85 (by decide)).trans (n1 85 (by decide))) ((nz 87 (by decide)).trans (n1 87 (by decide))) ?_ ((nz 89 (by decide)).trans ((n1 89 (by decide)).trans h89)) ((nz 90 (by decide)).trans n90) z91 d1 (by rw [nz 8 (by decide)]; exact d2)
          · rw [ev_var hnc hkind.1, d4, gz.1.ob hT1 d1 d2]
          · unfold EvL; rw [nz 60 (by decide), nz 59 (by decide), nz 88 (by decide)]; exact L1
        · by_cases c : x5 = (kk : Int)
          · rw [c] at hz
            exact absurd ((hT1.inj hU1 a1 a2 k0 (by omega)).mp (a3.trans ek1.symm)) hz
          · omega
    · have hcc := hr.t hc
      refine p_valueOf hT1 hU1 k0 (by omega) tm1 hcc (fun j j0 j1 ej w ew => ?_)
      rw [ek1] at hcc ej
      have gz : EvF (v.1 85) (v.1 87) v1 w := by subst ew; exact EvF_I hT1 hU1 (by decide) (by decide) _ _
      have nz : ∀ i, i ≠ 91 → w.1 i = v1.1 i := fun i hi => by rw [ew]; exact if_neg hi
      have z91 : w.1 91 = j := by rw [ew]; rfl
      clear ew
      refine hok j s w ?_ (g1.tr gz (Int.le_refl _) (Int.le_refl _)) ((nz 85 (by decide)).trans (n1 85 (by decide))) ((nz 87 (by decide)).trans (n1 87 (by decide))) ?_ ((nz 89 (by decide)).trans ((n1 89 (by decide)).trans h89)) ((nz 90 (by decide)).trans n90) z91 j0 (by rw [nz 8 (by decide)]; exact j1)
      · rw [ev_const hcc, gz.1.ob hT1 j0 j1, ej]
      · unfold EvL; rw [nz 60 (by decide), nz 59 (by decide), nz 88 (by decide)]; exact L1
theorem ev_go [DecidableEq Ob] {u0 : iST} {E : Sp.Env} (hT0 : TI u0) (hD : DOk u0 E) (h57 : u0.1 57 = -1) (hW : Sp.DWf E) (lim : Int) (Q : Int → iST → Prop) (d : Nat) : EvG u0 E lim Q d := by
  induction d with
  | zero => exact ev_step hT0 hD h57 hW lim Q 0 (fun d' h => by omega)
  | succ d ih => exact ev_step hT0 hD h57 hW lim Q (d + 1) (fun d' h => by rw [show d' = d by omega]; exact ih)
/-- a term without variables is evaluated -/
theorem p_evaluated [DecidableEq Ob] {k lim : Int} {Q : Int → iST → Prop} {u : iST} {E : Sp.Env} (hT : TI u) (hU : TU u) (hD : DOk u E) (h57 : u.1 57 = -1) (hW : Sp.DWf E) (k0 : 0 ≤ k) (k1 : k < u.1 8) (tm : Tm u (ob u k)) (wo : Ob.wt (Sp.arOf E) (ob u k)) (hv : ∀ x, x ∈ Ob.parts (ob u k) → Ob.isVar x = false)
    {s : Sp.Ek} (hs : u.1 60 + (s.1 : Int) = u.1 59) (h1 : lim ≠ 0 → s.2.1 = 100) (h2 : lim = 0 → s.1 < s.2.1)
    (hok : ∀ r s' w, Sp.ev E 300 (fun x => x) (ob u k) s = .ok (ob w r) s' → GZ f7E u w → w.1 60 + (s'.1 : Int) = w.1 59 → w.1 89 = 0 → 0 ≤ r → r < w.1 8 → Q r w)
    (hbad : ∀ c s' w, Sp.ev E 300 (fun x => x) (ob u k) s = .error c s' → GZ f7E u w → w.1 60 + (s'.1 : Int) = w.1 59 → c ≠ 0 → w.1 89 = c → Q (-1) w) : pw_evaluated k lim Q u := by
  unfold pw_evaluated
  intro w1 e1 w2 e2 w3 e3 w4 e4
  have g : EvF 0 0 u w4 := by
    have f1 : EvF 0 0 u w1 := by rw [e1]; exact EvF_I hT hU (by decide) (by decide) _ _
    have f2 : EvF 0 0 w1 w2 := by rw [e2]; exact EvF_I f1.1.1 f1.1.2.1 (by decide) (by decide) _ _
    have f3 : EvF 0 0 w2 w3 := by rw [e3]; exact EvF_I f2.1.1 f2.1.2.1 (by decide) (by decide) _ _
    have f4 : EvF 0 0 w3 w4 := by rw [e4]; exact EvF_I f3.1.1 f3.1.2.1 (by decide) (by decide) _ _
    exact ((f1.tr f2 (Int.le_refl _) (Int.le_refl _)).tr f3 (Int.le_refl _) (Int.le_refl _)).tr f4 (Int.le_refl _) (Int.le_refl _)
  have m85 : w4.1 85 = 0 := by rw [e4, e3, e2, e1]; rfl
  have m87 : w4.1 87 = 0 := by rw [e4, e3, e2]; rfl
  have m88 : w4.1 88 = 100 := by rw [e4, e3]; rfl
  have m89 : w4.1 89 = 0 := by rw [e4]; rfl
  have m60 : w4.1 60 = u.1 60 := by rw [e4, e3, e2, e1]; rfl
  have m59 : w4.1 59 = u.1 59 := by rw [e4, e3, e2, e1]; rfl
  have m8 : w4.1 8 = u.1 8 := by rw [e4, e3, e2, e1]; rfl
  clear e4 e3 e2 e1
  refine ev_go hT hD h57 hW lim Q 300 (fun x => x) (ob u k) w4 s k 0 0 g.1 (by omega) (by omega) (by omega) ⟨by rw [m60, m59]; exact hs, fun z => by rw [m88, h1 z]; rfl, h2⟩ m89 k0 (by omega) (g.1.ob hT k0 k1) (tm.mono g.1 hT) wo (fun x hx hx2 => by rw [hv x hx] at hx2; cases hx2) (fun r s' w hev gw w85 w87 wL w89 w90 w91 r0 r1 => ?_) (fun c s' w hev gw hc w89 ws => ?_)
  · refine fo_w_evaluated_29 ?_
    unfold pw_evaluated_29b
    intro x ex _
    subst ex
    refine ⟨fun z => absurd w89 z, fun _ => ?_⟩
    intro x ex _
    subst ex
    refine ⟨fun z => by omega, fun _ => ?_⟩
    intro x ex _
    subst ex
    refine ⟨fun _ => ?_, fun z => by omega⟩
    unfold pw_evaluated_73
    intro x ex _
    subst ex
    refine ⟨fun z => absurd w89 z, fun _ => ?_⟩
    intro x ex _
    subst ex
    rw [w91]
    exact hok r s' w hev (g.1.tr gw.1) wL.1 w89 r0 r1
  · refine fo_w_evaluated_29 ?_
    unfold pw_evaluated_29b
    intro x ex _
    subst ex
    refine ⟨fun _ => ?_, fun z => absurd w89 (fun e => z (by omega))⟩
    unfold pw_evaluated_73
    intro x ex _
    subst ex
    exact ⟨fun _ => hbad c s' w hev gw ws hc w89, fun z => absurd w89 (fun e => z (by omega))⟩
