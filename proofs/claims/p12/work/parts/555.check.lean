-- deps: 554
/-! the reference: check -/
theorem Ran_check [DecidableEq Ob] {H : Sp.Hs} {fuel : Nat} {o : Ob} {r : Sp.Res} (h : Ob.lft o = Ob.check) (hr : match (if Ob.len o = 4 ∧ Ob.isName (Ob.item o 1) then Sp.rdAt (H.env []) o 2 else none) with
     | some F => if (Sp.Env.thmOf (H.env []) (Ob.item o 1)).isSome ∨ H.2.1.length = 60 then r = Sp.nothing H else
        r = Sp.ranM H fuel (fun l => if l.all (· = F) then Sp.addThm H (Ob.item o 1) F 3 else H) (Sp.pf (H.env []) 40 (Ob.item o 3))
     | none => r = Sp.nothing H) : Sp.Ran H fuel o r := by
  have ne : ∀ s : List Int, Ob.enc s ≠ Ob.enc [99, 104, 101, 99, 107] → Ob.lft o ≠ Ob.sym s := fun s h1 z => Ob.sym_ne h1 (z.symm.trans h)
  unfold Sp.Ran
  rw [if_neg (show ¬ Ob.lft o = Ob.eval from ne _ (by decide)), if_neg (show ¬ Ob.lft o = Ob.simplify from ne _ (by decide)), if_neg (show ¬ (Ob.lft o = Ob.prove ∨ Ob.lft o = Ob.defthm) from fun z => z.elim (ne _ (by decide)) (ne _ (by decide))), if_neg (show ¬ Ob.lft o = Ob.defun from ne _ (by decide)), if_pos h]
  exact hr
theorem thm_sz [DecidableEq Ob] {H : Sp.Hs} (h : Sp.HOk H) : ∀ n k, (H.env []).thmOf n = some k → k.form.sz ≤ 120 := fun n k e => ((HOk.wf h).2.1 k (List.mem_of_find?_eq_some e)).2.1.2
theorem p_check [DecidableEq Ob] {a : Int} {Q : Int → iST → Prop} {u : iST} {H : Sp.Hs} {fuel : Nat} (hI : CmI u H fuel a) (hw : Ob.lenA (ob u a)) (ho : Ob.lft (ob u a) = Ob.check) (hq : ∀ ans v r, Sp.Ran H fuel (ob u a) r → CmO u v r ans → Q ans v) : pw_check a Q u := by
  obtain ⟨hX, bg, ⟨h71, h64, h61, h60, h59, h62, h63⟩, a0, a1⟩ := hI
  have hT := hX.1
  have hU := hX.2.1
  obtain ⟨hD, h57, hW, hTk⟩ := hX.2.2.1
  have no : ∀ (ans : Int) (v : iST), GZ f7K u v → v.1 64 = 0 → v.1 60 = 0 → v.1 62 = 0 → ¬ (ans = 5 ∨ ans = 6) → Sp.Ran H fuel (ob u a) (Sp.nothing H) → Q ans v := fun ans v g v64 v60 v62 ha hr => hq ans v _ hr (CmO.no hX bg g v64 v60 v62 ha)
  have stp : ∀ (ans : Int) (v : iST) (s : Int), GZ f7K u v → v.1 64 = 0 → v.1 60 = s → v.1 62 = 0 → ¬ (ans = 5 ∨ ans = 6) → Sp.Ran H fuel (ob u a) (H, s, 0, false) → Q ans v := fun ans v s g v64 v60 v62 ha hr => hq ans v _ hr ⟨v64, ⟨(g.2.2.2.2 59 (f7K_out (by decide))).1, (g.2.2.2.2 12 (f7K_out (by decide))).2⟩, v60, by rw [if_neg ha], by rw [v62]; exact bq0 rfl, [], hX.keep g, fun _ => bg.keep g⟩
  unfold pw_check
  refine p_lengthOf hT hU a0 a1 ⟨fun hz => no 2 u (GZ.rf hT hU) h64 h60 h62 (by decide) (Ran_check ho (by rw [if_neg (fun z => hz z.1)])), fun hz => ?_⟩
  have hl : (ob u a).len = 4 := Decidable.not_not.mp hz
  refine p_nthL hT a0 a1 (by decide) (by rw [hl]; decide) (fun N N0 N1 eN => ?_)
  have eN : ob u N = Ob.item (ob u a) 1 := eN
  refine p_isNewName hT hU N0 N1 (fun b hb => ⟨fun hb0 => ?_, fun hb0 => no 2 u (GZ.rf hT hU) h64 h60 h62 (by decide) (Ran_check ho ?_)⟩)
  rotate_left
  · rw [if_neg]
    intro z
    have := z.2
    rw [← eN, hb.f (Decidable.not_not.mp hb0)] at this
    cases this
  have hname : (Ob.item (ob u a) 1).isName = true := by rw [← eN]; exact hb.t hb0
  refine p_nthL hT a0 a1 (by decide) (by rw [hl]; decide) (fun x x0 x1 ex => ?_)
  have ex : ob u x = Ob.item (ob u a) 2 := ex
  refine p_termE (E := H.env []) hT hU hD h57 x0 x1 (by omega) (fun f w gw w61 hf => ?_)
  rw [ex] at hf
  have hf : (Sp.rdAt (H.env []) (ob u a) 2 = none ∧ f = -1) ∨ (Nd w (H.env []) f ∧ (ob w f).sz ≤ 120 ∧ Sp.rdAt (H.env []) (ob u a) 2 = some (ob w f)) := hf
  have g : GZ f7K u w := gw.1.mono f7M_K
  have qw : ∀ j, (62 ≤ j ∧ j ≤ 64) ∨ j = 60 ∨ j = 59 → w.1 j = u.1 j := fun j hj => (gw.1.2.2.2.2 j (by unfold f7M fI; simp only [Bool.or_eq_false_iff, decide_eq_false_iff_not]; omega)).1
  have w64 : w.1 64 = 0 := by rw [qw 64 (by decide)]; exact h64
  have w60 : w.1 60 = 0 := by rw [qw 60 (by decide)]; exact h60
  have w62 : w.1 62 = 0 := by rw [qw 62 (by decide)]; exact h62
  refine ⟨fun hfz => ?_, fun hfz => no 2 w g w64 w60 w62 (by decide) (Ran_check ho ?_)⟩
  rotate_left
  · rw [if_pos ⟨hl, hname⟩]
    rcases hf with ⟨q, _⟩ | ⟨q, _⟩
    · rw [q]
    · have := q.1; have := Decidable.not_not.mp hfz; omega
  obtain ⟨nf, zf, ef⟩ := hf.resolve_left (fun q => hfz q.2)
  have hXw := hX.keep g
  have bgw := bg.keep g
  have ewa : ob w a = ob u a := gw.1.ob hT a0 a1
  have hle := gw.1.le
  have R1 : ∀ r, ((Sp.Env.thmOf (H.env []) (Ob.item (ob u a) 1)).isSome ∨ H.2.1.length = 60 → r = Sp.nothing H) → (¬ ((Sp.Env.thmOf (H.env []) (Ob.item (ob u a) 1)).isSome ∨ H.2.1.length = 60) → r = Sp.ranM H fuel (fun l => if l.all (· = ob w f) then Sp.addThm H (Ob.item (ob u a) 1) (ob w f) 3 else H) (Sp.pf (H.env []) 40 (Ob.item (ob u a) 3))) → Sp.Ran H fuel (ob u a) r := fun r h1 h2 => Ran_check ho (by
    rw [if_pos ⟨hl, hname⟩, ef]
    show if _ then _ else _
    split
    · next c => exact h1 c
    · next c => exact h2 c)
  refine p_nthL hXw.1 a0 (by omega) (by decide) (by rw [ewa, hl]; decide) (fun N2 N20 N21 eN2 => ?_)
  rw [ewa] at eN2
  have eN2 : ob w N2 = Ob.item (ob u a) 1 := eN2
  refine p_theoremOf hXw.1 hXw.2.1 hXw.2.2.1.2.2.2 N20 N21 (fun hn0 => ⟨fun _ => ?_, fun q => absurd rfl q⟩) (fun d d0 d1 _ hds _ => ⟨fun q => by omega, fun _ => no 3 w g w64 w60 w62 (by decide) (R1 _ (fun _ => rfl) (fun q => absurd (Or.inl ?_) q))⟩)
  rotate_left
  · rw [eN2] at hds
    have hds : Sp.Env.thmOf (H.env []) (Ob.item (ob u a) 1) = some (thm1 w d) := hds
    rw [hds]; rfl
  rw [eN2] at hn0
  have hn0 : Sp.Env.thmOf (H.env []) (Ob.item (ob u a) 1) = none := hn0
  have l42 : H.2.1.length = (w.1 42).toNat := by
    have : H.2.1 = thmsL w := hXw.2.2.1.2.2.2.1
    rw [this]; unfold thmsL; simp
  intro x42 ex42 _
  rw [ex42]
  refine ⟨fun hne => ?_, fun hne => no 8 w g w64 w60 w62 (by decide) (R1 _ (fun _ => rfl) (fun q => absurd (Or.inr (by have := Decidable.not_not.mp hne; omega)) q))⟩
  have hroom : ¬ ((Sp.Env.thmOf (H.env []) (Ob.item (ob u a) 1)).isSome = true ∨ H.2.1.length = 60) := by
    rintro (q | q)
    · rw [hn0] at q; cases q
    · omega
  have hran : ∀ r, r = Sp.ranM H fuel (fun l => if l.all (· = ob w f) then Sp.addThm H (Ob.item (ob u a) 1) (ob w f) 3 else H) (Sp.pf (H.env []) 40 (Ob.item (ob u a) 3)) → Sp.Ran H fuel (ob u a) r := fun r hr => R1 r (fun q => absurd q hroom) (fun _ => hr)
  intro keep ekeep _ y1 ey1 y2 ey2 v ev
  have k1 : PfK 0 0 w y1 := by rw [ey1]; exact PfK_I hXw.1 hXw.2.1 (by decide) (by decide) (by decide)
  have k2 : PfK 0 0 y1 y2 := by rw [ey2]; exact PfK_I k1.1.1 k1.1.2.1 (by decide) (by decide) (by decide)
  have k3 : PfK 0 0 y2 v := by rw [ev]; exact PfK_I k2.1.1 k2.1.2.1 (by decide) (by decide) (by decide)
  have kv := (k1.tr k2 (Int.le_refl _) (Int.le_refl _)).tr k3 (Int.le_refl _) (Int.le_refl _)
  have hXv := hXw.keep (kv.1.mono f7Pf_K)
  have vn : ∀ k, k ≠ 144 → k ≠ 147 → k ≠ 148 → v.1 k = w.1 k := fun k h1 h2 h3 => by
    rw [ev, ey2, ey1]
    exact (if_neg h3).trans ((if_neg h2).trans (if_neg h1))
  have v2 : v.2 = w.2 := by rw [ev, ey2, ey1]; rfl
  have v8 : v.1 8 = w.1 8 := vn 8 (by decide) (by decide) (by decide)
  have eva : ob v a = ob u a := (kv.1.ob hXw.1 a0 (by omega)).trans ewa
  refine p_nthL hXv.1 a0 (by omega) (by decide) (by rw [eva, hl]; decide) (fun b b0 b1 eb => ?_)
  rw [eva] at eb
  have eb : ob v b = Ob.item (ob u a) 3 := eb
  -- the loop goes on
  have hL : ∀ z, z.1 61 = 0 → z.1 148 = -1 → 0 < z.1 144 → pw_goProof (fun u => pw_check_100 Q a f keep u) z → pw_check_100 Q a f keep z := by
    intro z z61 z148 z144 hz2
    refine fo_w_check_100 ?_
    unfold pw_check_100b
    intro c1 ec1 _
    rw [ec1]
    refine ⟨fun q => absurd z61 q, fun _ => ?_⟩
    intro c2 ec2 _
    rw [ec2]
    refine ⟨fun q => absurd z148 q, fun _ => ?_⟩
    intro c3 ec3 _
    rw [ec3]
    exact ⟨fun q => by omega, fun _ => hz2⟩
  have fin : ∀ z c, PfK 0 c v z → GZ f7K u z ∧ z.1 64 = 0 ∧ z.1 62 = 0 ∧ ∀ s, StL z s → z.1 60 = (fuel : Int) - (s.1 : Int) := by
    intro z c kz
    have gz : GZ f7K u z := (g.tr (kv.1.mono f7Pf_K)).tr (kz.1.mono f7Pf_K)
    refine ⟨gz, ?_, ?_, fun s hs => ?_⟩
    · rw [(kz.1.2.2.2.2 64 (by decide)).1, vn 64 (by decide) (by decide) (by decide)]; exact w64
    · rw [(kz.1.2.2.2.2 62 (by decide)).1, vn 62 (by decide) (by decide) (by decide)]; exact w62
    · unfold StL at hs
      rw [(gz.2.2.2.2 59 (f7K_out (by decide))).1] at hs
      omega
  have v59 : v.1 59 = (fuel : Int) := by rw [vn 59 (by decide) (by decide) (by decide), qw 59 (by decide)]; exact h59
  have v60 : v.1 60 = 0 := by rw [vn 60 (by decide) (by decide) (by decide)]; exact w60
  refine pf_go (H := H) (L := fun u => pw_check_100 Q a f keep u) (thm_sz hX.2.2.2.2.1) hL 40 (Nat.le_refl _) b 0 v (fuel, 0) hXv (by rw [kv.2.1, gw.2.1]; omega) (by rw [vn 61 (by decide) (by decide) (by decide), w61]; exact h61) (by rw [ev]; rfl) (by rw [ev, ey2, ey1]; rfl) (by rw [ev, ey2]; rfl) (by decide) (by unfold StL; rw [v59, v60]; show (0 : Int) + (fuel : Int) = _; omega) b0 b1 (by rw [eb]; exact lenA_item _ _ hw) ?_ ?_
  rotate_left
  · -- the PROOF is none
    intro z s' e kz hor st
    rw [eb] at e
    obtain ⟨gz, z64, z62, z60⟩ := fin z 0 kz
    have hr : Sp.Ran H fuel (ob u a) (H, (fuel : Int) - (s'.1 : Int), 0, false) := hran _ (by unfold Sp.ranM; rw [e])
    refine fo_w_check_100 ?_
    unfold pw_check_100b
    intro c1 ec1 _
    rw [ec1]
    rcases hor with q | ⟨q1, q2, q3, q4⟩
    · refine ⟨fun _ => ?_, fun q2 => absurd q q2⟩
      unfold pw_check_129
      intro c2 ec2 _
      rw [ec2]
      exact ⟨fun q2 => absurd q2 q, fun _ => stp 4 z _ gz z64 (z60 s' st) z62 (by decide) hr⟩
    · refine ⟨fun q => absurd q1 q, fun _ => ?_⟩
      intro c2 ec2 _
      rw [ec2]
      refine ⟨fun _ => ?_, fun q => absurd q2 q⟩
      unfold pw_check_129
      intro c3 ec3 _
      rw [ec3]
      refine ⟨fun _ => ?_, fun q => absurd q1 q⟩
      intro c4 ec4 _
      rw [ec4]
      refine ⟨fun q => absurd q q2, fun _ => ?_⟩
      intro c5 ec5 _
      rw [ec5]
      refine p_tellOut gz.1 gz.2.1 z64 q3 q4 (fun y gy y64 _ => stp 7 y _ (gz.tr (gy.mono f7T_K)) y64 ?_ ?_ (by decide) hr)
      · rw [(gy.2.2.2.2 60 (by decide)).1]; exact z60 s' st
      · rw [(gy.2.2.2.2 62 (by decide)).1]; exact z62
  -- the PROOF is one
  intro z l s' e kz z61 z148 z144 z147 hcz ecl st
  rw [eb] at e
  obtain ⟨gz, z64, z62, z60⟩ := fin z 0 kz
  have hXz := hX.keep gz
  have bgz := bg.keep gz
  have gwz : GZ f7Pf w z := kv.1.tr kz.1
  obtain ⟨nfz, efz⟩ := nf.mono hXw.1 gwz
  have hrm : ∀ r, r = ((if l.all (· = ob w f) then Sp.addThm H (Ob.item (ob u a) 1) (ob w f) 3 else H), (fuel : Int) - (s'.1 : Int), 0, false) → Sp.Ran H fuel (ob u a) r := fun r hr => hran r (by rw [hr]; unfold Sp.ranM; rw [e])
  obtain ⟨n0, n1, nC⟩ := hcz
  have el : l = ls z (z.2.1 145) (30 * 0) (z.2.1 146 0).toNat := ecl.symm
  refine fo_w_check_100 ?_
  unfold pw_check_100b
  intro c1 ec1 _
  rw [ec1]
  refine ⟨fun q => absurd z61 q, fun _ => ?_⟩
  intro c2 ec2 _
  rw [ec2]
  refine ⟨fun q => absurd z148 q, fun _ => ?_⟩
  intro c3 ec3 _
  rw [ec3]
  refine ⟨fun _ => ?_, fun q => by omega⟩
  unfold pw_check_129
  intro c4 ec4 _
  rw [ec4]
  refine ⟨fun _ => ?_, fun q => absurd z61 q⟩
  intro c5 ec5 _
  rw [ec5]
  refine ⟨fun _ => ?_, fun q => absurd z148 q⟩
  refine pw_check_160_i (fun x1 x2 x3 x4 y => x1 = a ∧ x2 = f ∧ x3 = keep ∧ y = z ∧ 0 ≤ x4 ∧ x4 ≤ z.2.1 146 0 ∧ ∀ j, 0 ≤ j → j < x4 → z.2.1 145 j = f) ?_ ⟨rfl, rfl, rfl, rfl, by decide, n0, fun j j0 j1 => by omega⟩
  rintro x1 x2 x3 x4 y ⟨e1, e2, e3, e4, i0, i1, ih⟩
  rw [e1, e2, e3, e4]
  unfold pw_check_160b
  intro _ _ x15 ex15 _
  rw [ex15]
  refine ⟨fun hle4 => ?_, fun hlt4 => ?_⟩
  rotate_left
  · intro _ _ x19 ex19 _
    rw [ex19]
    refine ⟨fun hne => ?_, fun heq => ?_⟩
    rotate_left
    · intro _
      refine ⟨rfl, rfl, rfl, rfl, by omega, by omega, fun j j0 j1 => ?_⟩
      by_cases q : j < x4
      · exact ih j j0 q
      · rw [show j = x4 by omega]; exact Decidable.not_not.mp heq
    -- a literal that is not the formula
    have nx := nC x4 i0 (by omega)
    rw [show 30 * 0 + x4 = x4 by omega] at nx
    have hall : l.all (· = ob w f) = false := by
      cases q : l.all (· = ob w f) with
      | false => rfl
      | true =>
        exfalso
        rw [List.all_eq_true] at q
        have := of_decide_eq_true (q (ob z (z.2.1 145 x4)) (by
          rw [el]
          exact ls_mem.mpr ⟨x4.toNat, by omega, by rw [show 30 * 0 + ((x4.toNat : Nat) : Int) = x4 by omega]⟩))
        rw [← efz] at this
        exact hne ((hXz.1.inj hXz.2.1 nx.1 nx.2.1 nfz.1 nfz.2.1).mp this)
    have hr : Sp.Ran H fuel (ob u a) (H, (fuel : Int) - (s'.1 : Int), 0, false) := hrm _ (by rw [hall]; rfl)
    intro _ _ x20 ex20 _ _
    have kn0 := kn hXz.1 hXz.2.1 0 (by decide) (by decide) rfl
    refine pw_check_198_i (fun x5 x6 y => GZ fT z y ∧ 0 ≤ x5 ∧ x5 < y.1 8 ∧ x6 < z.2.1 146 0) ?_ ⟨GZ.rf hXz.1 hXz.2.1, kn0.1, kn0.2.1, by omega⟩
    rintro x5 x6 y ⟨gy, b0, b1, b2⟩
    unfold pw_check_198b
    refine ⟨fun hn => ?_, fun hn => ?_⟩
    · refine p_tellOut gy.1 gy.2.1 (by rw [(gy.2.2.2.2 64 (by decide)).1]; exact z64) b0 b1 (fun t gt t64 _ => stp 7 t _ ((gz.tr (gy.mono fT_K)).tr (gt.mono f7T_K)) t64 ?_ ?_ (by decide) hr)
      · rw [(gt.2.2.2.2 60 (by decide)).1, (gy.2.2.2.2 60 (by decide)).1]; exact z60 s' st
      · rw [(gt.2.2.2.2 62 (by decide)).1, (gy.2.2.2.2 62 (by decide)).1]; exact z62
    · intro _ _ x23 ex23 _
      have ny := nC x6 (by omega) b2
      rw [show 30 * 0 + x6 = x6 by omega] at ny
      rw [(gy.2.2.2.2 145 (by decide)).2] at ex23
      have hly := gy.le
      rw [ex23]
      exact p_pair gy.1 gy.2.1 ny.1 (by have := ny.2.1; omega) b0 b1 (fun k t gt t0 t1 _ _ => ⟨gy.tr gt.gz, t0, t1, by omega⟩)
  -- proved
  have hall : l.all (· = ob w f) = true := by
    rw [List.all_eq_true]
    intro o ho'
    rw [el] at ho'
    obtain ⟨i, hi, eo⟩ := ls_mem.mp ho'
    rw [show 30 * 0 + (i : Int) = (i : Int) by omega, ih (i : Int) (by omega) (by omega), efz] at eo
    exact decide_eq_true eo.symm
  have hr := hrm _ (by rw [hall])
  have hlez := gwz.le
  obtain ⟨c1', c2', c3', c4'⟩ := bgz
  have b2 := bgw.2.1
  have b1' := bgw.1
  have z132 : z.1 132 = w.1 132 := (gwz.2.2.2.2 132 (by decide)).1
  refine p_forgetH hXz (by omega) (by omega) (fun i' i0' i1' => by have := c3' i' i0' i1'; omega) (c4'.up (by omega)) (fun t ht t8 tE tr tn => ?_)
  have bgt : BgOk t := by
    have t132 : t.1 132 = z.1 132 := tn 132 (by decide) (by decide) (by decide)
    have t54 : t.1 54 = z.1 54 := tn 54 (by decide) (by decide) (by decide)
    have es : srt t = srt z := by unfold srt; rw [t54, tr 55 (by decide)]
    refine ⟨by omega, by omega, fun i' i0' i1' => by rw [tr 56 (by decide), t132]; exact c3' i' i0' (by omega), ?_⟩
    rw [t132, t54]
    exact c4'.keep es (fun j p q => tr j (by omega))
  have h3t : z.2.1 3 = t.2.1 3 := (tr 3 (by decide)).symm
  have eot : ∀ j, 0 ≤ j → j < w.1 8 → ob t j = ob w j := fun j j0 j1 => by
    rw [← tE.ob ht.1 hXz.1 j0 (by omega), gwz.ob hXw.1 j0 j1]
  have eta : ob t a = ob u a := by rw [eot a a0 (by omega)]; exact ewa
  refine p_nthL ht.1 a0 (by omega) (by decide) (by rw [eta, hl]; decide) (fun N3 N30 N31 eN3 => ?_)
  rw [eta] at eN3
  have eN3 : ob t N3 = Ob.item (ob u a) 1 := eN3
  have nft := Nd_back hXz.1 hXz.2.1 ht.1 tE h3t nfz (by have := nf.2.1; omega)
  have eft : ob t f = ob w f := by rw [nft.2]; exact efz
  refine p_addTheorem ht bgt ⟨N30, N31, by rw [eN3]; exact hname⟩ nft.1 (by rw [eft]; exact zf) (by decide) (fun X hX' => ?_) (fun v2' m2 hv2 v254 v2n v212 => ?_)
  · intro q
    rw [eN3] at q
    unfold Sp.Env.thmOf at hn0
    exact absurd (decide_eq_true q) (List.find?_eq_none.mp hn0 X hX')
  · rw [eN3, eft] at hv2
    have t54 : t.1 54 = z.1 54 := tn 54 (by decide) (by decide) (by decide)
    have z54 : z.1 54 = u.1 54 := (gz.2.2.2.2 54 (f7K_out (by decide))).1
    have tq : ∀ k, 59 ≤ k → k ≤ 64 → v2'.1 k = z.1 k := fun k p q => by rw [v2n k p q, tn k (by omega) (by omega) (by omega)]
    refine hq 0 v2' _ hr ⟨by rw [tq 64 (by decide) (by decide)]; exact z64, ⟨by rw [tq 59 (by decide) (by decide)]; exact (gz.2.2.2.2 59 (f7K_out (by decide))).1, by rw [v212, tr 12 (by decide)]; exact (gz.2.2.2.2 12 (f7K_out (by decide))).2⟩, by rw [tq 60 (by decide) (by decide)]; exact z60 s' st, by rw [if_neg (by decide)], by rw [tq 62 (by decide) (by decide), z62]; exact bq0 rfl, m2, hv2, fun q => by omega⟩
