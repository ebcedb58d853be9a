-- deps: 450
/-- a term made anew: w says what a term becomes as a whole -/
def agM [DecidableEq Ob] (w : Ob → Option Ob) : Bool → Ob → Ob
  | true, .op a b => .pr (agM w false a) (agM w true b)
  | true, .var x => .var x
  | false, .op a b => match w (.op a b) with | some y => y | none => if a = Ob.quote then .op a b else .op a (agM w true b)
  | false, .var x => (w (.var x)).getD (.var x)
def wl [DecidableEq Ob] (u : iST) (a1 a2 : Int) (o : Ob) : Option Ob := if 0 ≤ a1 ∧ o = ob u a1 then some (ob u a2) else if o.isVar then some (Ob.lkD (prs u) o) else none
theorem Tm_call [DecidableEq Ob] {u : iST} {a b : Ob} (h : Tm u (.pr a b)) (hq : a ≠ Ob.quote) : a.isSym = true ∧ tmM u true b ∧ szd u (.pr a b) := by
  have h' : if a = Ob.quote then _ else _ := h
  rw [if_neg hq] at h'
  exact h'
theorem an_go [DecidableEq Ob] {u0 : iST} (hT0 : TI u0) (hP : PrOk u0) (a1 a2 : Int) (ha : 0 ≤ a1 → a1 < u0.1 8 ∧ 0 ≤ a2 ∧ a2 < u0.1 8 ∧ Tm u0 (ob u0 a2)) (x4 x5 : Int) (Q : Int → iST → Prop) : ∀ (m : Bool) (o : Ob),
    (m = false → ∀ (v : iST) (k : Int), GZ fI u0 v → x4 ≤ v.1 69 → 0 ≤ v.1 71 → 0 ≤ k → k < v.1 8 → ob v k = o → Tm v o →
      (∀ w, AN v w (v.1 69) (v.1 69) (v.1 71) → w.1 69 = v.1 69 → w.1 71 = v.1 71 + 1 → 0 ≤ w.2.1 70 (v.1 71) → w.2.1 70 (v.1 71) < w.1 8 → ob w (w.2.1 70 (v.1 71)) = agM (wl u0 a1 a2) false o → Tm w (agM (wl u0 a1 a2) false o) → pw_anew_19 Q a1 a2 x4 x5 w) →
      pw_beginInstance k a1 a2 (fun w => pw_anew_19 Q a1 a2 x4 x5 w) v) ∧
    (m = true → ∀ v : iST, GZ fI u0 v → x4 < v.1 69 → 0 ≤ v.1 71 → 0 ≤ v.2.1 67 (v.1 69 - 1) → v.2.1 67 (v.1 69 - 1) < v.1 8 → ob v (v.2.1 67 (v.1 69 - 1)) = o → tmM v true o →
      (∀ w (n : Nat), AN v w (v.1 69) (v.1 69 - 1) (v.1 71) → w.1 69 = v.1 69 → w.2.1 67 (v.1 69 - 1) = 0 → w.1 71 = v.1 71 + (n : Int) → Ob.ofList (bl w (v.1 71) n) = agM (wl u0 a1 a2) true o →
        (∀ i, v.1 71 ≤ i → i < w.1 71 → 0 ≤ w.2.1 70 i ∧ w.2.1 70 i < w.1 8 ∧ Tm w (ob w (w.2.1 70 i))) → pw_anew_19 Q a1 a2 x4 x5 w) → pw_anew_19 Q a1 a2 x4 x5 v)
  | m, o => by
    refine ⟨fun hm v k hG hx hb0 k0 k1 ek ht hq => ?_, fun hm v hG hx hb0 r0 r1 er ht hq => ?_⟩
    · subst hm
      have hT := hG.1
      have hU := hG.2.1
      have hle := hG.le
      obtain ⟨hPv, ePv⟩ := hP.mono hT0 hG
      have leaf : ∀ y, 0 ≤ y → y < v.1 8 → Tm v (ob v y) → ob v y = agM (wl u0 a1 a2) false o → ∀ Q', (∀ w, Q' w = pw_anew_19 Q a1 a2 x4 x5 w) → pw_build y Q' v := by
        intro y y0 y1 yt ye Q' hQ'
        refine p_build hT hU rfl (fun w hA e69 e71 e70 => ?_)
        rw [hQ']
        have hw := hA (v.1 69) (v.1 69)
        have hl := hw.1.le
        refine hq w hw e69 e71 (by rw [e70]; exact y0) (by rw [e70]; omega) (by rw [e70, hw.1.ob hT y0 y1]; exact ye) ?_
        rw [← ye]
        exact yt.mono hw.1 hT
      unfold pw_beginInstance
      refine ⟨fun hne => ?_, fun heq => ?_⟩
      · have hn1 : ¬ (0 ≤ a1 ∧ o = ob u0 a1) := by
          rintro ⟨z, e⟩
          have hz := ha z
          refine hne ((hT.inj hU k0 k1 z (by omega)).mp ?_)
          rw [ek, e, hG.ob hT0 z hz.1]
        refine p_isCall hT hU k0 k1 (fun r hr => ⟨fun hc => ?_, fun hc => ?_⟩)
        · have hnc := hr.f hc
          refine p_isVariable hT hU k0 k1 (fun r2 hr2 => ⟨fun hd => ?_, fun hd => ?_⟩)
          · unfold pw_beginInstance_47
            refine leaf k k0 k1 (by rw [ek]; exact ht) ?_ _ (fun _ => rfl)
            have hnv := hr2.f hd
            rw [ek] at hnc hnv ⊢
            have hw : wl u0 a1 a2 o = none := by unfold wl; rw [if_neg hn1, if_neg (by rw [hnv]; decide)]
            cases o with
            | var x => show _ = (wl u0 a1 a2 (.var x)).getD _; rw [hw]; rfl
            | op a b =>
              have hq2 : a = Ob.quote := by
                exact Classical.byContradiction (fun z => of_decide_eq_false hnc z)
              show _ = match wl u0 a1 a2 (Ob.pr a b) with | some y => y | none => if a = Ob.quote then Ob.pr a b else Ob.pr a (agM (wl u0 a1 a2) true b)
              rw [hw]
              exact (if_pos hq2).symm
          · refine p_substituted hT hU hPv k0 k1 (by rw [ek]; exact ht) (fun j j0 j1 jt je => ?_)
            unfold pw_beginInstance_47
            refine leaf j j0 j1 jt ?_ _ (fun _ => rfl)
            have hv := hr2.t hd
            rw [ek] at hv je
            have hw : wl u0 a1 a2 o = some (Ob.lkD (prs u0) o) := by unfold wl; rw [if_neg hn1, if_pos hv]
            rw [je, ePv]
            cases o with
            | var x => show _ = (wl u0 a1 a2 (.var x)).getD _; rw [hw]; rfl
            | op a b => cases hv
        · have hcall := hr.t hc
          rw [ek] at hcall
          match o, ek, ht, hq, hn1, hcall with
          | .op a b, ek, ht, hq, hn1, hcall =>
            have hqa : a ≠ Ob.quote := of_decide_eq_true hcall
            obtain ⟨l0, l1, q0, q1, _, _, ep⟩ := ob_lft hT k0 k1 (by rw [ek]; rfl)
            rw [ek] at ep
            have ea := (Ob.pr.inj ep).1
            have eb := (Ob.pr.inj ep).2
            obtain ⟨tsym, trow, _⟩ := Tm_call ht hqa
            refine p_openCall hT hU rfl (fun w hA e69 e71 e66 e67 e68 => ?_)
            have hw := hA (v.1 71)
            have hl := hw.1.le
            have e69' : w.1 69 - 1 = v.1 69 := by omega
            have hrow := (an_go hT0 hP a1 a2 ha x4 x5 Q true b).2 rfl w (hG.tr hw.1) (by omega) (by omega) (by rw [e69', e67]; exact q0) (by rw [e69', e67]; omega) (by rw [e69', e67, hw.1.ob hT q0 (by omega)]; exact eb.symm) (tmM.mono hw.1 hT true b trow)
            refine hrow (fun z n hz f69 f67 f71 fl fe => ?_)
            rw [e69'] at f67 hz
            have hTw := hw.1.1
            have hTz := hz.1.1
            have hvz : AN v z (v.1 69) (v.1 69) (v.1 71) := hw.tr hz (by omega) (by omega) (by omega)
            have hlz := hvz.1.le
            have g66 : z.2.1 66 (v.1 69) = k := (hz.2.1 _ (by omega)).1.trans e66
            have g68 : z.2.1 68 (v.1 69) = v.1 71 := (hz.2.1 _ (by omega)).2.trans e68
            refine fo_w_anew_19 ?_
            unfold pw_anew_19b
            intro c ec _
            subst ec
            refine ⟨fun z1 => by omega, fun _ => ?_⟩
            intro c ec _ _ _ _ r er _
            subst ec er
            have c69 : z.1 69 - 1 = v.1 69 := by omega
            rw [c69]
            refine ⟨fun z1 => absurd f67 z1, fun _ => ?_⟩
            intro c ec _ _ z2 ez2 _ _ y ey _ _ _ y2 ey2 _ _ _ y3 ey3 _
            subst ec ez2 ey ey2 ey3
            show pw_callFrom (z.2.1 0 (z.2.1 66 (v.1 69))) (z.2.1 68 (v.1 69)) _ (iI z 69 (z.1 69 - 1))
            rw [g66, g68, c69]
            have hs : GZ fI z (iI z 69 (v.1 69)) := GZ_eq (GZ.rf hTz hz.1.2.1) (fun k hk => ⟨if_neg (by omega), rfl⟩) rfl (Fx_I (by decide))
            have eo : ∀ j, ob (iI z 69 (v.1 69)) j = ob z j := ob_same rfl rfl rfl rfl rfl
            have e0 : z.2.1 0 k = v.2.1 0 k := (hvz.1.2.2.1.2.1 k k0 k1).1
            have eaz : ob z (v.2.1 0 k) = a := (hvz.1.ob hT l0 (by omega)).trans ea.symm
            rw [e0]
            refine p_callFrom hs.1 hs.2.1 l0 (show v.2.1 0 k < z.1 8 by omega) (by rw [eo, eaz]; exact tsym) (by rw [eo, eaz]; exact hqa) hb0 (show v.1 71 ≤ z.1 71 by omega) (fun i i0 i1 => ?_) (fun cc y hy c0 c1 ecc _ tcc => ?_)
            · have i1 : i < z.1 71 := i1
              obtain ⟨p1, p2, p3⟩ := fe i (by omega) i1
              exact ⟨p1, p2, by rw [eo]; exact p3.mono hs hTz⟩
            · have hyI : GZ fI (iI z 69 (v.1 69)) y := hy.mono fT_I
              have hvy : GZ fI v y := (hvz.1.tr hs).tr hyI
              intro _ _ b3 eb3 _ y2 ey2
              have x68 : y.2.1 68 (v.1 69) = v.1 71 := by
                have := (hy.2.2.2.2 68 (by decide)).2
                rw [this]; exact g68
              rw [x68] at eb3
              subst eb3 ey2
              have hy2 : GZ fI y (iI y 71 (v.1 71)) := GZ_eq (GZ.rf hy.1 hy.2.1) (fun k hk => ⟨if_neg (by omega), rfl⟩) rfl (Fx_I (by decide))
              have eo2 : ∀ j, ob (iI y 71 (v.1 71)) j = ob y j := ob_same rfl rfl rfl rfl rfl
              refine p_build hy2.1 hy2.2.1 (c := v.1 71) rfl (fun w3 hA3 h69 h71 h70 => ?_)
              have hw3 := hA3 (v.1 69) (v.1 69)
              have hl3 : y.1 8 ≤ w3.1 8 := hw3.1.le
              have r66 := (hy.2.2.2.2 66 (by decide)).2
              have r67 := (hy.2.2.2.2 67 (by decide)).2
              have r68 := (hy.2.2.2.2 68 (by decide)).2
              have r70 := (hy.2.2.2.2 70 (by decide)).2
              have r69 := (hy.2.2.2.2 69 (by decide)).1
              have hAv : AN v w3 (v.1 69) (v.1 69) (v.1 71) := by
                refine ⟨(hvy.tr hy2).tr hw3.1, fun i hi => ?_, fun i hi => ?_, fun i hi => ?_⟩
                · obtain ⟨p1, p2⟩ := hw3.2.1 i hi
                  obtain ⟨p3, p4⟩ := hvz.2.1 i hi
                  refine ⟨p1.trans ?_, p2.trans ?_⟩
                  · show y.2.1 66 i = _; rw [r66]; exact p3
                  · show y.2.1 68 i = _; rw [r68]; exact p4
                · refine (hw3.2.2.1 i hi).trans ?_
                  show y.2.1 67 i = _; rw [r67]; exact hvz.2.2.1 i hi
                · refine (hw3.2.2.2 i hi).trans ?_
                  show y.2.1 70 i = _; rw [r70]; exact hvz.2.2.2 i hi
              have eres : ob y cc = agM (wl u0 a1 a2) false (Ob.pr a b) := by
                have hnv : wl u0 a1 a2 (Ob.pr a b) = none := by unfold wl; rw [if_neg hn1]; rfl
                show _ = match wl u0 a1 a2 (Ob.pr a b) with | some y => y | none => if a = Ob.quote then Ob.pr a b else Ob.pr a (agM (wl u0 a1 a2) true b)
                rw [hnv, ecc, eo, eaz]
                show _ = if a = Ob.quote then _ else _
                rw [if_neg hqa, ← fl]
                have en : ((iI z 69 (v.1 69)).1 71 - v.1 71).toNat = n := by
                  show (z.1 71 - v.1 71).toNat = n
                  omega
                rw [en, e71]
                refine congrArg (fun l => Ob.pr a (Ob.ofList l)) ?_
                unfold bl
                exact List.map_congr_left (fun i _ => eo _)
              refine hq w3 hAv (h69.trans (by show y.1 69 = _; rw [r69]; rfl)) h71 (by rw [h70]; exact c0) (by rw [h70]; omega) ?_ ?_
              · rw [h70, hw3.1.ob hy2.1 c0 c1, eo2]; exact eres
              · rw [← eres]; exact (tcc.mono hy2 hy.1).mono hw3.1 hy2.1
      · have hka : k = a1 := Decidable.not_not.mp heq
        have z : 0 ≤ a1 := by omega
        obtain ⟨p1, p2, p3, p4⟩ := ha z
        have hw : wl u0 a1 a2 o = some (ob u0 a2) := by
          unfold wl
          rw [if_pos ⟨z, by rw [← ek, hka, hG.ob hT0 z p1]⟩]
        refine leaf a2 p2 (by omega) (by rw [hG.ob hT0 p2 p3]; exact p4.mono hG hT0) ?_ _ (fun _ => rfl)
        rw [hG.ob hT0 p2 p3]
        cases o with
        | var x => show _ = (wl u0 a1 a2 (.var x)).getD _; rw [hw]; rfl
        | op a b => show _ = match wl u0 a1 a2 (Ob.pr a b) with | some y => y | none => if a = Ob.quote then Ob.pr a b else Ob.pr a (agM (wl u0 a1 a2) true b); rw [hw]
    · subst hm
      have hT := hG.1
      have hU := hG.2.1
      match o, er, ht, hq with
      | .op a b, er, ht, hq =>
        obtain ⟨l0, l1, q0, q1, _, _, ep⟩ := ob_lft hT r0 r1 (by rw [er]; rfl)
        rw [er] at ep
        have ea := (Ob.pr.inj ep).1
        have eb := (Ob.pr.inj ep).2
        obtain ⟨ta, tb⟩ : Tm v a ∧ tmM v true b := ht
        have hr0 : v.2.1 67 (v.1 69 - 1) ≠ 0 := by
          intro z
          have h8 := hT.1
          have := (TU.at hT hU (i := 0) (by decide) rfl r0 r1).mp z
          rw [er] at this
          cases this
        refine fo_w_anew_19 ?_
        unfold pw_anew_19b
        intro c ec _
        subst ec
        refine ⟨fun z1 => by omega, fun _ => ?_⟩
        intro c ec _ _ _ _ r err _
        subst ec err
        refine ⟨fun _ => ?_, fun z1 => absurd z1 (not_not_intro hr0)⟩
        intro _ _ y1 ey1 _ _ _ y2 ey2 _ _ _ y3 ey3 _ _ _ y4 ey4 _ _ _ w ew
        subst ey1 ey2 ey3 ey4
        have hw : AN v w (v.1 69) (v.1 69 - 1) (v.1 71) := by
          subst ew
          exact ⟨GZ_eq (GZ.rf hT hU) (fun k hk => ⟨rfl, if_neg (by omega)⟩) rfl (Fx_A (by decide)), fun _ _ => ⟨rfl, rfl⟩, fun i hi => if_neg (by omega), fun _ _ => rfl⟩
        have w69 : w.1 69 = v.1 69 := by rw [ew]; rfl
        have w71 : w.1 71 = v.1 71 := by rw [ew]; rfl
        have w67 : w.2.1 67 (v.1 69 - 1) = v.2.1 1 (v.2.1 67 (v.1 69 - 1)) := by rw [ew]; exact if_pos rfl
        clear ew
        have hTw := hw.1.1
        have hlw := hw.1.le
        have hGw := hG.tr hw.1
        refine (an_go hT0 hP a1 a2 ha x4 x5 Q false a).1 rfl w _ hGw (by omega) (by omega) l0 (by omega) (by rw [hw.1.ob hT l0 (by omega)]; exact ea.symm) (ta.mono hw.1 hT) (fun z hz z69 z71 z0 z1 ez tz => ?_)
        rw [w69, w71] at hz
        rw [w71] at z71 z0 z1 ez
        have hTz := hz.1.1
        have hlz := hz.1.le
        have z67 : z.2.1 67 (v.1 69 - 1) = v.2.1 1 (v.2.1 67 (v.1 69 - 1)) := (hz.2.2.1 _ (by omega)).trans w67
        have hvz : AN v z (v.1 69) (v.1 69 - 1) (v.1 71) := hw.tr hz (by omega) (by omega) (by omega)
        have z69' : z.1 69 = v.1 69 := by omega
        refine (an_go hT0 hP a1 a2 ha x4 x5 Q true b).2 rfl z (hGw.tr hz.1) (by omega) (by omega) (by rw [z69', z67]; exact q0) (by rw [z69', z67]; omega) (by rw [z69', z67, hvz.1.ob hT q0 (by omega)]; exact eb.symm) (tmM.mono hvz.1 hT true b tb) (fun y n hy y69 y67 y71 yl ye => ?_)
        rw [z69'] at hy y67
        have hvy : AN v y (v.1 69) (v.1 69 - 1) (v.1 71) := hvz.tr hy (by omega) (by omega) (by omega)
        have y70 : y.2.1 70 (v.1 71) = z.2.1 70 (v.1 71) := hy.2.2.2 _ (by omega)
        have hly := hy.1.le
        have eyo : ob y (y.2.1 70 (v.1 71)) = agM (wl u0 a1 a2) false a := by rw [y70, hy.1.ob hTz z0 z1]; exact ez
        refine hq y (n + 1) hvy (by omega) y67 (by omega) ?_ (fun i i0 i1 => ?_)
        · rw [bl_cons]
          show Ob.pr (ob y (y.2.1 70 (v.1 71))) (Ob.ofList (bl y (v.1 71 + 1) n)) = Ob.pr (agM (wl u0 a1 a2) false a) (agM (wl u0 a1 a2) true b)
          rw [eyo]
          rw [z71] at yl
          rw [yl]
        · by_cases e : i = v.1 71
          · subst e
            refine ⟨by rw [y70]; exact z0, by rw [y70]; omega, ?_⟩
            rw [eyo]
            exact tz.mono hy.1 hTz
          · exact ye i (by omega) i1
      | .var s, er, ht, hq =>
        have hs : .var s = Ob.nil := ht
        have hr0 : v.2.1 67 (v.1 69 - 1) = 0 := (TU.at hT hU (i := 0) (by decide) rfl r0 r1).mpr (er.trans hs)
        refine hq v 0 (AN.rf hT hU _ _ _) rfl hr0 (by omega) ?_ (fun i i0 i1 => by omega)
        exact hs.symm
  termination_by m o => SizeOf.sizeOf o
  decreasing_by all_goals (simp_wf; omega)
