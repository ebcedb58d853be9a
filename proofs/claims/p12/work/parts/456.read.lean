-- deps: 455
/-! the reference, partial: an object of a text as a term -/
theorem FnOf_same [DecidableEq Ob] {u v : iST} (h57 : v.1 57 = u.1 57) (h35 : v.1 35 = u.1 35) (h36 : v.2.1 36 = u.2.1 36) {f r : Int} (h : FnOf v f r) : FnOf u f r := by
  unfold FnOf at h ⊢
  rw [h57, h35, h36] at h
  exact h
theorem rdM_pr [DecidableEq Ob] (ar : Ob → Int) (a b : Ob) : Ob.rdM ar false (.pr a b) = if a = Ob.quote then (if Ob.isQuoted (.pr a b) then some (Ob.constOf (Ob.lft b)) else none)
      else if ar a = -1 ∨ Ob.len b ≠ ar a then none else match Ob.rdM ar true b with | some y => some (.pr a y) | none => none := rfl
theorem rdM_row [DecidableEq Ob] (ar : Ob → Int) (a b : Ob) : Ob.rdM ar true (.pr a b) = match Ob.rdM ar false a, Ob.rdM ar true b with | some x, some y => some (.pr x y) | _, _ => none := rfl
theorem rd_go [DecidableEq Ob] {u0 : iST} (hT0 : TI u0) {ar : Ob → Int} (hA : ArOk u0 ar) (hs0 : ∀ f, (f.isSym = false → ar f = -1)) (x2 x3 : Int) (Q : Int → iST → Prop) : ∀ (m : Bool) (o : Ob),
    (m = false → ∀ (v : iST) (k : Int), GZ fI u0 v → x2 ≤ v.1 69 → 0 ≤ v.1 71 → 0 ≤ k → k < u0.1 8 → ob u0 k = o →
      (∀ y w, Ob.rdM ar false o = some y → AN v w (v.1 69) (v.1 69) (v.1 71) → w.1 69 = v.1 69 → w.1 71 = v.1 71 + 1 → 0 ≤ w.2.1 70 (v.1 71) → w.2.1 70 (v.1 71) < w.1 8 → ob w (w.2.1 70 (v.1 71)) = y → Tm w y → pw_termOf_17 Q x2 x3 1 w) →
      (Ob.rdM ar false o = none → ∀ w, GZ fI u0 w → pw_termOf_17 Q x2 x3 0 w) →
      pw_beginTerm k (fun r w => pw_termOf_17 Q x2 x3 r w) v) ∧
    (m = true → o.len ≠ -1 → ∀ v : iST, GZ fI u0 v → x2 < v.1 69 → 0 ≤ v.1 71 → 0 ≤ v.2.1 67 (v.1 69 - 1) → v.2.1 67 (v.1 69 - 1) < u0.1 8 → ob u0 (v.2.1 67 (v.1 69 - 1)) = o →
      (∀ y w (n : Nat), Ob.rdM ar true o = some y → AN v w (v.1 69) (v.1 69 - 1) (v.1 71) → w.1 69 = v.1 69 → w.2.1 67 (v.1 69 - 1) = 0 → w.1 71 = v.1 71 + (n : Int) → Ob.ofList (bl w (v.1 71) n) = y →
        (∀ i, v.1 71 ≤ i → i < w.1 71 → 0 ≤ w.2.1 70 i ∧ w.2.1 70 i < w.1 8 ∧ Tm w (ob w (w.2.1 70 i))) → pw_termOf_17 Q x2 x3 1 w) →
      (Ob.rdM ar true o = none → ∀ w, GZ fI u0 w → pw_termOf_17 Q x2 x3 0 w) →
      pw_termOf_17 Q x2 x3 1 v)
  | m, o => by
    refine ⟨fun hm v k hG hx hb0 k0 k1 ek hq hf => ?_, fun hm hlen v hG hx hb0 r0 r1 er hq hf => ?_⟩
    · subst hm
      have hT := hG.1
      have hU := hG.2.1
      have hle := hG.le
      have k1' : k < v.1 8 := by omega
      have ekv : ob v k = o := (hG.ob hT0 k0 k1).trans ek
      have leaf : ∀ y, 0 ≤ y → y < v.1 8 → Tm v (ob v y) → Ob.rdM ar false o = some (ob v y) → pw_build y (fun w => ztp 1 (pw_termOf_17 Q x2 x3 1 w)) v := by
        intro y y0 y1 yt ye
        refine p_build hT hU rfl (fun w hA e69 e71 e70 => fun _ => ?_)
        have hw := hA (v.1 69) (v.1 69)
        have hl := hw.1.le
        exact hq (ob v y) w ye hw e69 e71 (by rw [e70]; exact y0) (by rw [e70]; omega) (by rw [e70, hw.1.ob hT y0 y1]) (yt.mono hw.1 hT)
      unfold pw_beginTerm
      refine p_isPair hT k0 k1' (fun r hr => ⟨fun hc => ?_, fun hc => ?_⟩)
      · have hp := hr.t hc
        rw [ekv] at hp
        match o, ek, ekv, hq, hf, leaf with
        | .var x, _, _, _, _, _ => cases hp
        | .op a b, ek, ekv, hq, hf, leaf =>
          obtain ⟨l0, l1, q0, q1, _, _, ep⟩ := ob_lft hT k0 k1' (by rw [ekv]; rfl)
          rw [ekv] at ep
          have ea := (Ob.pr.inj ep).1
          have eb := (Ob.pr.inj ep).2
          have eq2 := kat hT hU 2 (by decide) (by decide) rfl l0 (by omega)
          have e0 : v.2.1 0 k = u0.2.1 0 k := (hG.2.2.1.2.1 k k0 k1).1
          have e1 : v.2.1 1 k = u0.2.1 1 k := (hG.2.2.1.2.1 k k0 k1).2.1
          intro _ _ y1 ey1 _
          subst ey1
          have hrd := rdM_pr ar a b
          refine ⟨fun hq2 => ?_, fun hq2 => ?_⟩
          · have hqa : a ≠ Ob.quote := fun z => hq2 (eq2.mpr (ea.symm.trans z))
            rw [if_neg hqa] at hrd
            intro _ _ y2 ey2 _
            subst ey2
            refine p_isSymbol hT l0 (by omega) (fun r3 hr3 => ⟨fun hc3 => ?_, fun hc3 => ?_⟩)
            · have hsym := hr3.t hc3
              have hfu : ob u0 (v.2.1 0 k) = a := (hG.ob hT0 l0 (by rw [e0]; have := (hT0.pair k0 k1 (by rw [← e0]; exact l0)).1; omega)).symm.trans ea.symm
              have hfl : v.2.1 0 k < u0.1 8 := by omega
              intro _ _ y3 ey3 _
              subst ey3
              refine p_functionOf (fun rr hrr => ?_)
              have hrr0 : FnOf u0 (v.2.1 0 k) rr := FnOf_same (hG.2.2.2.2 57 (by decide)).1 (hG.2.2.2.2 35 (by decide)).1 (hG.2.2.2.2 36 (by decide)).2 hrr
              have hAr := hA _ _ l0 hfl (by rw [hfu, ea]; exact hsym) hrr0
              rw [hfu] at hAr
              refine ⟨fun hz _ => ?_, fun hz => ?_⟩
              · rcases hAr with ⟨_, z⟩ | ⟨z, _⟩
                · rw [if_pos (Or.inl z)] at hrd
                  exact hf hrd v hG
                · omega
              · rcases hAr with ⟨z, _⟩ | ⟨z3, z0, zA⟩
                · exact absurd z hz
                · have hmany : Many v rr = Many u0 rr := by unfold Many; rw [(hG.2.2.2.2 58 (by decide)).1, (hG.2.2.2.2 37 (by decide)).2]
                  intro _ _ y4 ey4 _
                  subst ey4
                  refine p_lengthOf hT hU q0 (by omega) (p_manyOf z3 ?_)
                  rw [hmany, ← zA, ← eb]
                  refine ⟨fun hl => ?_, fun hl _ => ?_⟩
                  · have har : ¬ (ar a = -1 ∨ Ob.len b ≠ ar a) := fun z => z.elim (by omega) (fun z => z hl)
                    rw [if_neg har] at hrd
                    refine p_openCall hT hU rfl (fun w hA e69 e71 e66 e67 e68 => fun _ => ?_)
                    have hw := hA (v.1 71)
                    have hwl := hw.1.le
                    have e69' : w.1 69 - 1 = v.1 69 := by omega
                    have hq0 : v.2.1 1 k < u0.1 8 := by omega
                    have hbu : ob u0 (v.2.1 1 k) = b := (hG.ob hT0 q0 hq0).symm.trans eb.symm
                    refine (rd_go hT0 ‹ArOk u0 ar› hs0 x2 x3 Q true b).2 rfl (by rw [hl, zA]; omega) w (hG.tr hw.1) (by omega) (by omega) (by rw [e69', e67]; exact q0) (by rw [e69', e67]; exact hq0) (by rw [e69', e67]; exact hbu) (fun y z n hy hz f69 f67 f71 fl fe => ?_) (fun hn w2 hw2 => hf (by rw [hrd, hn]) w2 hw2)
                    rw [hy] at hrd
                    rw [e69'] at f67 hz
                    have hTz := hz.1.1
                    have hvz : AN v z (v.1 69) (v.1 69) (v.1 71) := hw.tr hz (by omega) (by omega) (by omega)
                    have hlz := hvz.1.le
                    have g66 : z.2.1 66 (v.1 69) = k := (hz.2.1 _ (by omega)).1.trans e66
                    have g68 : z.2.1 68 (v.1 69) = v.1 71 := (hz.2.1 _ (by omega)).2.trans e68
                    refine fo_w_termOf_17 ?_
                    unfold pw_termOf_17b
                    intro c ec _
                    subst ec
                    refine ⟨fun z1 => by omega, fun _ => ⟨fun z1 => absurd z1 (by decide), fun _ => ?_⟩⟩
                    intro c ec _ _ _ _ r err _
                    subst ec err
                    have c69 : z.1 69 - 1 = v.1 69 := by omega
                    rw [c69]
                    refine ⟨fun z1 => absurd f67 z1, fun _ => ?_⟩
                    intro c ec _ _ z2 ez2 _ _ y5 ey5 _ _ _ y6 ey6 _ _ _ y7 ey7 _
                    subst ec ez2 ey5 ey6 ey7
                    show pw_callFrom (z.2.1 0 (z.2.1 66 (v.1 69))) (z.2.1 68 (v.1 69)) _ (iI z 69 (z.1 69 - 1))
                    rw [g66, g68, c69]
                    have hs : GZ fI z (iI z 69 (v.1 69)) := GZ_eq (GZ.rf hTz hz.1.2.1) (fun k hk => ⟨if_neg (by omega), rfl⟩) rfl (Fx_I (by decide))
                    have eo : ∀ j, ob (iI z 69 (v.1 69)) j = ob z j := ob_same rfl rfl rfl rfl rfl
                    have e0z : z.2.1 0 k = v.2.1 0 k := (hvz.1.2.2.1.2.1 k k0 k1').1
                    have eaz : ob z (v.2.1 0 k) = a := (hvz.1.ob hT l0 (by omega)).trans ea.symm
                    rw [e0z]
                    refine p_callFrom hs.1 hs.2.1 l0 (show v.2.1 0 k < z.1 8 by omega) (by rw [eo, eaz, ea]; exact hsym) (by rw [eo, eaz]; exact hqa) hb0 (show v.1 71 ≤ z.1 71 by omega) (fun i i0 i1 => ?_) (fun cc y8 hy8 c0 c1 ecc _ tcc => ?_)
                    · have i1 : i < z.1 71 := i1
                      obtain ⟨p1, p2, p3⟩ := fe i (by omega) i1
                      exact ⟨p1, p2, by rw [eo]; exact p3.mono hs hTz⟩
                    · have hyI : GZ fI (iI z 69 (v.1 69)) y8 := hy8.mono fT_I
                      have hvy : GZ fI v y8 := (hvz.1.tr hs).tr hyI
                      intro _ _ b3 eb3 _ y9 ey9
                      have x68 : y8.2.1 68 (v.1 69) = v.1 71 := by
                        rw [(hy8.2.2.2.2 68 (by decide)).2]; exact g68
                      rw [x68] at eb3
                      subst eb3 ey9
                      have hy2 : GZ fI y8 (iI y8 71 (v.1 71)) := GZ_eq (GZ.rf hy8.1 hy8.2.1) (fun k hk => ⟨if_neg (by omega), rfl⟩) rfl (Fx_I (by decide))
                      have eo2 : ∀ j, ob (iI y8 71 (v.1 71)) j = ob y8 j := ob_same rfl rfl rfl rfl rfl
                      refine p_build hy2.1 hy2.2.1 (c := v.1 71) rfl (fun w3 hA3 h69 h71 h70 => ?_)
                      have hw3 := hA3 (v.1 69) (v.1 69)
                      have hl3 : y8.1 8 ≤ w3.1 8 := hw3.1.le
                      have r66 := (hy8.2.2.2.2 66 (by decide)).2
                      have r67 := (hy8.2.2.2.2 67 (by decide)).2
                      have r68 := (hy8.2.2.2.2 68 (by decide)).2
                      have r70 := (hy8.2.2.2.2 70 (by decide)).2
                      have r69 := (hy8.2.2.2.2 69 (by decide)).1
                      have hAv : AN v w3 (v.1 69) (v.1 69) (v.1 71) := by
                        refine ⟨(hvy.tr hy2).tr hw3.1, fun i hi => ?_, fun i hi => ?_, fun i hi => ?_⟩
                        · obtain ⟨p1, p2⟩ := hw3.2.1 i hi
                          obtain ⟨p3, p4⟩ := hvz.2.1 i hi
                          refine ⟨p1.trans ?_, p2.trans ?_⟩
                          · show y8.2.1 66 i = _; rw [r66]; exact p3
                          · show y8.2.1 68 i = _; rw [r68]; exact p4
                        · refine (hw3.2.2.1 i hi).trans ?_
                          show y8.2.1 67 i = _; rw [r67]; exact hvz.2.2.1 i hi
                        · refine (hw3.2.2.2 i hi).trans ?_
                          show y8.2.1 70 i = _; rw [r70]; exact hvz.2.2.2 i hi
                      have eres : ob y8 cc = .pr a y := by
                        rw [ecc, eo, eaz, ← fl]
                        have en : ((iI z 69 (v.1 69)).1 71 - v.1 71).toNat = n := by
                          show (z.1 71 - v.1 71).toNat = n
                          omega
                        rw [en, e71]
                        refine congrArg (fun l => Ob.pr a (Ob.ofList l)) ?_
                        unfold bl
                        exact List.map_congr_left (fun i _ => eo _)
                      refine hq (.pr a y) w3 hrd hAv (h69.trans (by show y8.1 69 = _; rw [r69]; rfl)) h71 (by rw [h70]; exact c0) (by rw [h70]; omega) ?_ ?_
                      · rw [h70, hw3.1.ob hy2.1 c0 c1, eo2]; exact eres
                      · rw [← eres]; exact (tcc.mono hy2 hy8.1).mono hw3.1 hy2.1
                  · rw [if_pos (Or.inr hl)] at hrd
                    exact hf hrd v hG
            · refine fun _ => hf ?_ v hG
              rw [hrd, if_pos (Or.inl (hs0 a (by rw [ea]; exact hr3.f (Decidable.not_not.mp hc3))))]
          · have hqa : a = Ob.quote := ea.trans (eq2.mp (Decidable.not_not.mp hq2))
            rw [if_pos hqa] at hrd
            refine p_isQuoted hT hU k0 k1' (fun r3 hr3 => ⟨fun hc3 => ?_, fun hc3 _ => ?_⟩)
            · have h3 := hr3.t hc3
              rw [ekv] at h3
              rw [if_pos h3] at hrd
              have hbp : Ob.isPr b = true := by
                cases b with
                | var x => cases h3
                | op x y => rfl
              obtain ⟨m0, m1, _, _, _, _, ep2⟩ := ob_lft hT q0 (by omega) (by rw [← eb]; exact hbp)
              intro _ _ y3 ey3 _ _ _ y4 ey4 _
              subst ey3 ey4
              refine p_constantOf hT hU m0 (by omega) (fun c w hR c0 c1 ec => ?_)
              have hgz : GZ fI v w := hR.gz.mono fT_I
              have ec2 : ob w c = Ob.constOf (Ob.lft b) := by rw [ec, eb, ep2]; rfl
              have tc : Tm w (ob w c) := by rw [ec]; exact Tm_constOf w _
              refine p_build hgz.1 hgz.2.1 rfl (fun z hA e69 e71 e70 => fun _ => ?_)
              have hz := hA (v.1 69) (v.1 69)
              have w69 : w.1 69 = v.1 69 := (hR.2.2.2.2 69 (by decide)).1
              have w71 : w.1 71 = v.1 71 := (hR.2.2.2.2 71 (by decide)).1
              rw [w71] at hz e71 e70
              have hl := hz.1.le
              have ezc : ob z c = ob w c := hz.1.ob hgz.1 c0 c1
              refine hq _ z hrd ⟨hgz.tr hz.1, fun i hi => ?_, fun i hi => ?_, fun i hi => ?_⟩ (e69.trans w69) e71 (by rw [e70]; exact c0) (by rw [e70]; omega) (by rw [e70, ezc]; exact ec2) (by rw [← ec2]; exact tc.mono hz.1 hgz.1)
              · obtain ⟨p1, p2⟩ := hz.2.1 i hi
                rw [p1, p2, (hR.2.2.2.2 66 (by decide)).2, (hR.2.2.2.2 68 (by decide)).2]
                exact ⟨rfl, rfl⟩
              · rw [hz.2.2.1 i hi, (hR.2.2.2.2 67 (by decide)).2]
              · rw [hz.2.2.2 i hi, (hR.2.2.2.2 70 (by decide)).2]
            · have h3 := hr3.f (Decidable.not_not.mp hc3)
              rw [ekv] at h3
              rw [h3] at hrd
              exact hf hrd v hG
      · have hp := hr.f (Decidable.not_not.mp hc)
        refine leaf k k0 k1' (Tm_leaf hp) ?_
        rw [ekv] at hp ⊢
        cases o with
        | var x => rfl
        | op a b => cases hp
    · subst hm
      have hT := hG.1
      have hU := hG.2.1
      have hle := hG.le
      have r1' : v.2.1 67 (v.1 69 - 1) < v.1 8 := by omega
      have erv : ob v (v.2.1 67 (v.1 69 - 1)) = o := (hG.ob hT0 r0 r1).trans er
      match o, er, erv, hlen, hq, hf with
      | .op a b, er, erv, hlen, hq, hf =>
        obtain ⟨l0, l1, q0, q1, _, _, ep⟩ := ob_lft hT r0 r1' (by rw [erv]; rfl)
        rw [erv] at ep
        have ea := (Ob.pr.inj ep).1
        have eb := (Ob.pr.inj ep).2
        have hlb : Ob.len b ≠ -1 := fun z => hlen (by rw [show Ob.len (.op a b) = _ from Ob.len_pr a b, if_pos z])
        have hrd := rdM_row ar a b
        have hr0 : v.2.1 67 (v.1 69 - 1) ≠ 0 := by
          intro z
          have := (kat hT hU 0 (by decide) (by decide) rfl r0 r1').mp z
          rw [erv] at this
          cases this
        refine fo_w_termOf_17 ?_
        unfold pw_termOf_17b
        intro c ec _
        subst ec
        refine ⟨fun z1 => by omega, fun _ => ⟨fun z1 => absurd z1 (by decide), fun _ => ?_⟩⟩
        intro c ec _ _ _ _ r err _
        subst ec err
        refine ⟨fun _ => ?_, fun z1 => absurd z1 (not_not_intro hr0)⟩
        intro _ _ y1 ey1 _ _ _ y2 ey2 _ _ _ y3 ey3 _ _ _ y4 ey4 _ _ _ w ew
        subst ey1 ey2 ey3 ey4
        have hw : AN v w (v.1 69) (v.1 69 - 1) (v.1 71) := by
          subst ew
          exact ⟨GZ_eq (GZ.rf hT hU) (fun k hk => ⟨rfl, if_neg (by omega)⟩) rfl (Fx_A (by decide)), fun _ _ => ⟨rfl, rfl⟩, fun i hi => if_neg (by omega), fun _ _ => rfl⟩
        have w69 : w.1 69 = v.1 69 := by rw [ew]; rfl
        have w71 : w.1 71 = v.1 71 := by rw [ew]; rfl
        have w67 : w.2.1 67 (v.1 69 - 1) = v.2.1 1 (v.2.1 67 (v.1 69 - 1)) := by rw [ew]; exact if_pos rfl
        clear ew
        have hTw := hw.1.1
        have hGw := hG.tr hw.1
        have hau : ob u0 (v.2.1 0 (v.2.1 67 (v.1 69 - 1))) = a := (hG.ob hT0 l0 (by omega)).symm.trans ea.symm
        have hbu : ob u0 (v.2.1 1 (v.2.1 67 (v.1 69 - 1))) = b := (hG.ob hT0 q0 (by omega)).symm.trans eb.symm
        refine (rd_go hT0 hA hs0 x2 x3 Q false a).1 rfl w _ hGw (by omega) (by omega) l0 (by omega) hau (fun ya z hya hz z69 z71 z0 z1 ez tz => ?_) (fun hn w2 hw2 => hf (by rw [hrd, hn]) w2 hw2)
        rw [hya] at hrd
        rw [w69, w71] at hz
        rw [w71] at z71 z0 z1 ez
        have hTz := hz.1.1
        have hlz := hz.1.le
        have z67 : z.2.1 67 (v.1 69 - 1) = v.2.1 1 (v.2.1 67 (v.1 69 - 1)) := (hz.2.2.1 _ (by omega)).trans w67
        have hvz : AN v z (v.1 69) (v.1 69 - 1) (v.1 71) := hw.tr hz (by omega) (by omega) (by omega)
        have z69' : z.1 69 = v.1 69 := by omega
        refine (rd_go hT0 hA hs0 x2 x3 Q true b).2 rfl hlb z (hGw.tr hz.1) (by omega) (by omega) (by rw [z69', z67]; exact q0) (by rw [z69', z67]; omega) (by rw [z69', z67]; exact hbu) (fun yb y n hyb hy y69 y67 y71 yl ye => ?_) (fun hn w2 hw2 => hf (by rw [hrd, hn]) w2 hw2)
        rw [hyb] at hrd
        rw [z69'] at hy y67
        have hvy : AN v y (v.1 69) (v.1 69 - 1) (v.1 71) := hvz.tr hy (by omega) (by omega) (by omega)
        have y70 : y.2.1 70 (v.1 71) = z.2.1 70 (v.1 71) := hy.2.2.2 _ (by omega)
        have hly := hy.1.le
        have eyo : ob y (y.2.1 70 (v.1 71)) = ya := by rw [y70, hy.1.ob hTz z0 z1]; exact ez
        refine hq _ y (n + 1) hrd hvy (by omega) y67 (by omega) ?_ (fun i i0 i1 => ?_)
        · rw [bl_cons]
          show Ob.pr (ob y (y.2.1 70 (v.1 71))) (Ob.ofList (bl y (v.1 71 + 1) n)) = Ob.pr ya yb
          rw [eyo]
          rw [z71] at yl
          rw [yl]
        · by_cases e : i = v.1 71
          · subst e
            refine ⟨by rw [y70]; exact z0, by rw [y70]; omega, ?_⟩
            rw [eyo]
            exact tz.mono hy.1 hTz
          · exact ye i (by omega) i1
      | .var s, er, erv, hlen, hq, hf =>
        have hs : .var s = Ob.nil := by
          rw [Ob.len_var] at hlen
          by_cases c : .var s = Ob.nil
          · exact c
          · rw [if_neg c] at hlen; exact absurd rfl hlen
        have hr0 : v.2.1 67 (v.1 69 - 1) = 0 := (kat hT hU 0 (by decide) (by decide) rfl r0 r1').mpr (erv.trans hs)
        refine hq _ v 0 rfl (AN.rf hT hU _ _ _) rfl hr0 (by omega) ?_ (fun i i0 i1 => by omega)
        exact hs.symm
  termination_by m o => SizeOf.sizeOf o
  decreasing_by all_goals (simp_wf; omega)
theorem p_termOf [DecidableEq Ob] {a0 : Int} {Q : Int → iST → Prop} {u : iST} (hT : TI u) (hU : TU u) {ar : Ob → Int} (hA : ArOk u ar) (hs0 : ∀ f : Ob, (f.isSym = false → ar f = -1)) (k0 : 0 ≤ a0) (k1 : a0 < u.1 8) (h71 : 0 ≤ u.1 71)
    (hq : ∀ k v, GM u v → v.1 61 = u.1 61 → (Ob.rdT ar (ob u a0) = none ∧ k = -1) ∨ (0 ≤ k ∧ k < v.1 8 ∧ Ob.rdT ar (ob u a0) = some (ob v k) ∧ Tm v (ob v k)) → Q k v) : pw_termOf a0 Q u := by
  have fin : ∀ w, GZ fI u w → ∀ z, z = iI (iI w 69 (u.1 69)) 71 (u.1 71) → GZ fI w z ∧ GM u z ∧ z.1 61 = u.1 61 := by
    intro w hw z ez
    have g : GZ fI w z := by subst ez; exact GZ_eq (GZ.rf hw.1 hw.2.1) (fun k hk => ⟨(if_neg (by omega)).trans (if_neg (by omega)), rfl⟩) rfl ((Fx_I (by decide)).tr (Fx_I (by decide)))
    exact ⟨g, ⟨(hw.tr g).mono fI_7M, by rw [ez]; rfl, by rw [ez]; rfl⟩, ((hw.tr g).2.2.2.2 61 (by decide)).1⟩
  unfold pw_termOf
  intro v1 e1 _ v2 e2 _
  subst e1 e2
  refine (rd_go hT hA hs0 (u.1 69) (u.1 71) Q false (ob u a0)).1 rfl u a0 (GZ.rf hT hU) (Int.le_refl _) h71 k0 k1 rfl (fun y w hy hw w69 w71 w0 w1 ew tw => ?_) (fun hn w hw => ?_)
  · refine fo_w_termOf_17 ?_
    unfold pw_termOf_17b
    intro c ec _
    subst ec
    refine ⟨fun _ => ?_, fun z => absurd (Int.le_of_eq w69) z⟩
    unfold pw_termOf_147
    intro z1 ez1 z ez
    rw [ez1] at ez
    obtain ⟨g, hG, h61⟩ := fin w hw.1 z ez
    have x70 : z.2.1 70 = w.2.1 70 := by rw [ez]; rfl
    have x8 : z.1 8 = w.1 8 := by rw [ez]; rfl
    clear ez
    refine ⟨fun z => absurd z (by decide), fun _ => ?_⟩
    intro _ _ x ex _
    rw [x70] at ex
    subst ex
    have eo : ob z (w.2.1 70 (u.1 71)) = y := (g.ob hw.1.1 w0 w1).trans ew
    have tm : Tm z (ob z (w.2.1 70 (u.1 71))) := by rw [eo]; exact tw.mono g hw.1.1
    refine p_sizeOf g.1 g.2.1 w0 (by omega) tm ⟨fun hc => ?_, fun hc => ?_⟩
    · refine hq _ z hG h61 (Or.inl ⟨?_, rfl⟩)
      have : ¬ Ob.sz y ≤ 120 := fun z => absurd (cap_le.mpr z) (by rw [← eo]; omega)
      unfold Ob.rdT
      rw [hy]
      exact if_neg this
    · intro _ _ x2 ex2 _
      rw [x70] at ex2
      subst ex2
      refine hq _ z hG h61 (Or.inr ⟨w0, by omega, ?_, tm⟩)
      have : Ob.sz y ≤ 120 := cap_le.mp (by rw [← eo]; omega)
      unfold Ob.rdT
      rw [hy, eo]
      exact if_pos this
  · refine fo_w_termOf_17 ?_
    unfold pw_termOf_17b
    have key : pw_termOf_147 Q (u.1 69) (u.1 71) 0 w := by
      unfold pw_termOf_147
      intro z1 ez1 z ez
      rw [ez1] at ez
      obtain ⟨g, hG, h61⟩ := fin w hw z ez
      refine ⟨fun _ => hq _ z hG h61 (Or.inl ⟨?_, rfl⟩), fun z => absurd rfl z⟩
      unfold Ob.rdT
      rw [hn]
    intro c ec _
    exact ⟨fun _ => key, fun _ => ⟨fun _ => key, fun z => absurd rfl z⟩⟩
