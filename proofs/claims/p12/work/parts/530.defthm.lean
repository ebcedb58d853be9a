-- deps: 529
/-! the reference: prove and defthm -/
theorem p_defthm [DecidableEq Ob] {a nm : Int} {Q : Int → iST → Prop} {u : iST} {H : Sp.Hs} {fuel k : Nat} (hI : CmI u H fuel a) (hw : Ob.lenA (ob u a)) (hpr : (ob u a).isPr = true) (hk : nm = 0 ∧ k = 1 ∨ nm = 1 ∧ k = 2) (hR0 : ∀ r, Sp.RanT k H fuel (ob u a) r → Sp.Ran H fuel (ob u a) r) (hq : ∀ ans v r, Sp.Ran H fuel (ob u a) r → CmO u v r ans → Q ans v) : pw_defthm a nm Q u := by
  obtain ⟨hX, bg, ⟨h71, h64, h61, h60, h59, h62, h63⟩, a0, a1⟩ := hI
  have hT := hX.1
  have hU := hX.2.1
  obtain ⟨hD, h57, hW, hTk⟩ := hX.2.2.1
  -- nothing was done
  have no : ∀ (ans : Int) (v : iST) (m : List Ob), HX v H m → BgOk v → v.1 54 = u.1 54 → v.1 64 = 0 → (v.1 59 = u.1 59 ∧ v.2.1 12 = u.2.1 12) → v.1 60 = 0 → v.1 62 = 0 → ¬ (ans = 5 ∨ ans = 6) → Sp.RanT k H fuel (ob u a) (Sp.nothing H) → Q ans v := fun ans v m hv hb _ v64 v59 v60 v62 ha hr => hq ans v _ (hR0 _ hr) ⟨v64, v59, v60, by rw [if_neg ha]; rfl, by rw [v62]; exact bq0 rfl, m, hv, fun _ => hb⟩
  have bad0 : ¬ ((k : Int) < (ob u a).len ∧ (k = 2 → Ob.isName (Ob.item (ob u a) 1) = true)) → Q 2 u := fun h => no 2 u [] hX bg rfl h64 ⟨rfl, rfl⟩ h60 h62 (by decide) (RanT_1 (fun z => h ⟨z.1, z.2.1⟩))
  have k12 : k = 1 ∨ k = 2 := by rcases hk with ⟨_, q⟩ | ⟨_, q⟩ <;> omega
  -- the form is right
  have go42 : (k : Int) < (ob u a).len → (k = 2 → Ob.isName (Ob.item (ob u a) 1) = true) → pw_defthm_42 Q a nm (k : Int) u := by
    intro hlen hname
    have hl : (ob u a).len ≠ -1 := by omega
    have eol := Ob.ofList_toList _ hl
    have ell := Ob.len_toList hl
    unfold pw_defthm_42
    refine p_nthL hT a0 a1 (by omega) hlen (fun x x0 x1 ex => ?_)
    rw [show ((k : Int)).toNat = k by omega] at ex
    refine p_termE (E := H.env []) hT hU hD h57 x0 x1 (by omega) (fun f w gw w61 hf => ?_)
    rw [ex] at hf
    have hf : (Sp.rdAt (H.env []) (ob u a) k = none ∧ f = -1) ∨ (Nd w (H.env []) f ∧ (ob w f).sz ≤ 120 ∧ Sp.rdAt (H.env []) (ob u a) k = some (ob w f)) := hf
    have guw : GZ f7K u w := gw.1.mono f7M_K
    have hXw := hX.keep guw
    have bgw := bg.keep guw
    have hlew := guw.le
    have ewa : ob w a = ob u a := guw.ob hT a0 a1
    have qw : ∀ j, (12 ≤ j ∧ j ≤ 60) ∨ (62 ≤ j ∧ j ≤ 64) ∨ (132 ≤ j) → w.1 j = u.1 j := fun j hj => (gw.1.2.2.2.2 j (by unfold f7M fI; simp only [Bool.or_eq_false_iff, decide_eq_false_iff_not]; omega)).1
    have w71 : w.1 71 = 0 := by rw [gw.2.1]; exact h71
    -- down to the hints
    refine pw_defthm_61_i (fun y1 y2 y4 y5 y6 y7 v => v = w ∧ y1 = a ∧ y2 = nm ∧ y4 = (k : Int) ∧ y5 = f ∧ 0 ≤ y6 ∧ y6 < w.1 8 ∧ ∃ i : Nat, y7 = (i : Int) ∧ i ≤ k + 1 ∧ ob w y6 = Ob.ofList ((Ob.toList (ob u a)).drop i)) ?_ ⟨rfl, rfl, rfl, rfl, rfl, a0, by omega, 0, rfl, Nat.zero_le _, by rw [ewa, List.drop_zero]; exact eol.symm⟩
    intro y1 y2 y4 y5 y6 y7 v hJ
    obtain ⟨ev, e1, e2, e4, e5, y60, y61, i, e7, hi, ey⟩ := hJ
    rw [ev, e1, e2, e4, e5, e7]
    unfold pw_defthm_61b
    refine ⟨fun hc => ?_, fun hc => ?_⟩
    rotate_left
    · rcases list_step hXw.1 hXw.2.1 y60 y61 ey with ⟨_, q⟩ | ⟨_, b, l, hc', g0, g1, eg, h0', h1', eh⟩
      · have := congrArg List.length q
        rw [List.length_drop] at this
        have : (Ob.toList (ob u a)).length - i = 0 := this
        omega
      intro _ _ z ez _ _
      rw [ez]
      refine ⟨rfl, rfl, rfl, rfl, rfl, h0', h1', i + 1, by omega, by omega, ?_⟩
      rw [eh]
      have hil : i < (Ob.toList (ob u a)).length := by omega
      rw [List.drop_eq_getElem_cons hil] at hc'
      injection hc' with _ q2
      rw [q2]
    have hik : i = k + 1 := by omega
    rw [hik] at ey
    generalize hLL : (Ob.toList (ob u a)).drop (k + 1) = L at ey
    have hLm : ∀ h, h ∈ L → Ob.lenA h := fun h hh => lenA_mem _ h hw (List.mem_of_mem_drop (by rw [hLL]; exact hh))
    refine p_hints (L := L) hXw (by omega) y60 y61 ey (fun h hh => lenA_len (lenA_rgt (lenA_item h 1 (hLm h hh)))) (fun v hn => ?_)
    obtain ⟨gv, v71, v61, v136, v139, m, hMv, hdv⟩ := hn
    have hXv := hXw.hint gv hMv
    have bgv := bgw.hint gv
    have guv := gw.1
    have qv : ∀ j, (12 ≤ j ∧ j ≤ 14) ∨ (35 ≤ j ∧ j ≤ 60) ∧ j ≠ 53 ∨ j = 62 ∨ j = 63 ∨ j = 64 ∨ j = 132 → v.1 j = u.1 j := fun j hj => by rw [(gv.2.2.2.2 j (f7N_mid j hj)).1]; exact qw j (by omega)
    have v64 : v.1 64 = 0 := by rw [qv 64 (by decide)]; exact h64
    have v60 : v.1 60 = 0 := by rw [qv 60 (by decide)]; exact h60
    have v62 : v.1 62 = 0 := by rw [qv 62 (by decide)]; exact h62
    have v61' : v.1 61 = 0 := by rw [v61, w61]; exact h61
    have v71' : v.1 71 = 0 := by rw [v71]; exact w71
    have v59 : v.1 59 = u.1 59 := qv 59 (by decide)
    have v54 : v.1 54 = u.1 54 := qv 54 (by decide)
    have v12 : v.2.1 12 = u.2.1 12 := by rw [(gv.2.2.2.2 12 (f7N_mid 12 (by decide))).2]; exact (guw.2.2.2.2 12 (f7K_out (by decide))).2
    have none' : ∀ ans : Int, ¬ (ans = 5 ∨ ans = 6) → Sp.RanT k H fuel (ob u a) (Sp.nothing H) → Q ans v := fun ans ha hr => no ans v m hXv bgv v54 v64 ⟨v59, v12⟩ v60 v62 ha hr
    rw [v136]
    have rW : Sp.hintsAsk (H.env []) L = 0 ∨ Sp.hintsAsk (H.env []) L = 2 ∨ Sp.hintsAsk (H.env []) L = 3 := hintsGo_range _ _ _ _ _ (Or.inl rfl)
    refine ⟨fun hf1 => none' 2 (by decide) (RanT_2 ?_), fun hf1 => ?_⟩
    · rcases hf with ⟨q, _⟩ | ⟨q, _⟩
      · exact q
      · have := q.1; omega
    obtain ⟨nf, zf, ef⟩ := hf.resolve_left (fun q => hf1 q.2)
    refine ⟨fun h2 => ?_, fun h2 => none' 2 (by decide) (RanT_1 (fun z => z.2.2 (by rw [hLL]; exact Decidable.not_not.mp h2)))⟩
    have cond : (k : Int) < (ob u a).len ∧ (k = 2 → Ob.isName (Ob.item (ob u a) 1) = true) ∧ Sp.hintsAsk (H.env []) ((Ob.toList (ob u a)).drop (k + 1)) ≠ 2 := ⟨hlen, hname, by rw [hLL]; exact h2⟩
    have R3 := fun r => RanT_3 (r := r) (fuel := fuel) cond ef
    rw [hLL] at R3
    refine ⟨fun h3 => none' 3 (by decide) ((R3 _).1 (Or.inl h3) rfl), fun h3 => ?_⟩
    have hW0 : Sp.hintsAsk (H.env []) L = 0 := by omega
    obtain ⟨_, hd2, hd3⟩ := hdv h2
    obtain ⟨hm, hind, huse, huses⟩ := hd3 hW0
    have hlev := gv.le
    have gwv : GZ (fun _ => true) w v := gv.mono (fun q z => by cases z)
    have eva : ob v a = ob u a := by rw [gv.ob hXw.1 a0 (by omega)]; exact ewa
    obtain ⟨nfv, efv⟩ := nf.mono hXw.1 gv
    have nfv : Nd v (H.env m) f := nfv
    have tl : H.2.1.length = (v.1 42).toNat := by
      have : H.2.1 = thmsL v := hXv.2.2.1.2.2.2.1
      rw [this]; unfold thmsL; simp
    have t0 := hXv.2.2.1.2.2.2.2.1
    -- the work
    have work : ¬ (Sp.hintsAsk (H.env []) L = 3 ∨ k = 2 ∧ ((Sp.Env.thmOf (H.env []) (Ob.item (ob u a) 1)).isSome = true ∨ H.2.1.length = 60)) → pw_defthm_147 Q a nm f v := by
      intro hroom
      have hran : ∀ r, Sp.Proves (H.env m) H (if k = 2 then Sp.addThm H (Ob.item (ob u a) 1) (ob w f) 2 else H) fuel (Sp.thmCl (H.env []) (ob w f) (Sp.indOf (H.env []) L) (Sp.usesOf (H.env []) L)) r → Sp.Ran H fuel (ob u a) r := fun r hr => hR0 r ((R3 r).2 hroom (by rw [← hm]; exact hr))
      unfold pw_defthm_147
      intro kp ekp _
      have hS : StL v (fuel, 0) := by
        unfold StL
        rw [v60, v59, h59]
        show (0 : Int) + (fuel : Int) = _
        omega
      refine p_proveBy (H := H) (m := m) (ind := Sp.indOf (H.env []) L) (s0 := (fuel, 0)) hXv (by omega) v64 v61' v62 nfv v139 huse ?_ hS (fun r p hp => ?_)
      · by_cases c : v.1 133 = -1
        · refine Or.inl ⟨c, ?_⟩
          have : L.any (fun x => decide (Ob.lft x = Ob.induct)) = false := by
            cases e : L.any (fun x => decide (Ob.lft x = Ob.induct)) with
            | false => rfl
            | true => exact absurd c (hd2.mpr e)
          unfold Sp.indOf
          rw [List.find?_eq_none.mpr (fun x hx => by
            have := List.any_eq_false.mp this x hx
            exact this)]
        · refine Or.inr ⟨c, ?_⟩
          obtain ⟨h, e1', e2'⟩ := hind c
          obtain ⟨d, d0, d1, e3', e4', e5', rest⟩ := e2'
          refine ⟨Ob.item h 1, dfn1 v d, ⟨d, d0, d1, e3', e4', e5', rest⟩, e5', ?_⟩
          unfold Sp.indOf
          rw [e1']
          show (match Sp.Env.dfn (H.env []) (Ob.lft (Ob.item h 1)) with | some D => some (D, Ob.toList (Ob.rgt (Ob.item h 1))) | none => none) = _
          rw [e5']
      rw [← huses, efv] at hp
      obtain ⟨gp, p64, hor⟩ := hp
      have hXp := hXv.keep gp
      have bgp := bgv.keep gp
      have qp : ∀ j, f7K j = false → p.1 j = v.1 j := fun j hj => (gp.2.2.2.2 j hj).1
      have p59 : p.1 59 = u.1 59 := by rw [qp 59 (f7K_out (by decide))]; exact v59
      have p12 : p.2.1 12 = u.2.1 12 := by rw [(gp.2.2.2.2 12 (f7K_out (by decide))).2]; exact v12
      have p54 : p.1 54 = u.1 54 := by rw [qp 54 (f7K_out (by decide))]; exact v54
      have stp : ∀ s : Sp.Wk, StL p s → p.1 60 = (fuel : Int) - (s.1 : Int) := fun s hs => by
        unfold StL at hs
        rw [p59, h59] at hs
        omega
      intro y ey' _
      rw [ey']
      rcases hor with ⟨p61, p62, hr, p63, pC, cl, s, s', hRok, hend, hs'⟩ | ⟨p61, p62, hr, s', hs', hRR⟩
      rotate_left
      · refine ⟨fun z => absurd z p61, fun _ => ?_⟩
        refine hq 4 p (H, (fuel : Int) - (s'.1 : Int), 0, false) (hran _ ?_) ⟨p64, ⟨p59, p12⟩, stp s' hs', by rw [if_neg (by decide)], by rw [p62]; exact bq0 rfl, m, hXp, fun _ => bgp⟩
        unfold Sp.Proves
        rcases hRR with q | ⟨cl, s, q1, q2⟩
        · rw [q]
        · rw [q1]
          exact ⟨none, s', q2, rfl⟩
      refine ⟨fun _ => ?_, fun z => absurd p61 z⟩
      have hl63 : (lfL p).length = (p.1 63).toNat := by unfold lfL; simp
      refine ⟨fun hr0 => ?_, fun hr0 => ?_⟩
      rotate_left
      · -- not proved
        have hr0 := Decidable.not_not.mp hr0
        have h63' : p.1 63 ≠ 0 := fun q => by rw [if_pos q] at hr; omega
        refine p_tellLeft (E := H.env m) gp.1 gp.2.1 p64 p63 (fun i' i0 i1 => (pC i' i0 i1).2.2) (fun z gz z64 z60 z63 z62 => ?_)
        refine hq 6 z (H, (fuel : Int) - (s'.1 : Int), (lfL p).length, false) (hran _ ?_) ⟨z64, ⟨by rw [(gz.2.2.2.2 59 (f7K_out (by decide))).1]; exact p59, by rw [(gz.2.2.2.2 12 (f7K_out (by decide))).2]; exact p12⟩, by rw [z60]; exact stp s' hs', by rw [if_pos (Or.inr rfl)]; show z.1 63 = ((lfL p).length : Int); rw [z63, hl63]; omega, by rw [z62, p62, hr0]; exact bq0 rfl, m, hXp.keep gz, fun _ => bgp.keep gz⟩
        unfold Sp.Proves
        rw [hRok]
        refine ⟨some (lfL p), s', hend, ?_⟩
        cases el : lfL p with
        | nil => rw [el] at hl63; simp at hl63; omega
        | cons b l => rfl
      -- proved
      have h63' : p.1 63 = 0 := by
        by_cases q : p.1 63 = 0
        · exact q
        · rw [if_neg q] at hr; exact absurd hr hr0
      have hnil : lfL p = [] := by unfold lfL; rw [h63']; rfl
      have hprv : Sp.Proves (H.env m) H (if k = 2 then Sp.addThm H (Ob.item (ob u a) 1) (ob w f) 2 else H) fuel (Sp.thmCl (H.env []) (ob w f) (Sp.indOf (H.env []) L) (Sp.usesOf (H.env []) L)) (if k = 2 then Sp.addThm H (Ob.item (ob u a) 1) (ob w f) 2 else H, (fuel : Int) - (s'.1 : Int), 0, true) := by
        unfold Sp.Proves
        rw [hRok]
        exact ⟨some (lfL p), s', hend, by rw [hnil]⟩
      have b62 : bq (p.1 62) true := by rw [p62]; exact ⟨fun q => absurd q hr0, fun q => by cases q⟩
      have hlep := gp.le
      have p132 : p.1 132 = v.1 132 := qp 132 (f7K_out (by decide))
      have bb := bgp
      obtain ⟨c1, c2, c3, c4⟩ := bgp
      have b2 := bgv.2.1
      refine p_forgetH hXp (by rw [ekp]; have := bgv.1; omega) (by omega) (fun i' i0 i1 => by have := c3 i' i0 i1; omega) (c4.up (by omega)) (fun z hz z8 zE zr zn => ?_)
      have bgz : BgOk z := by
        have z132 : z.1 132 = p.1 132 := zn 132 (by decide) (by decide) (by decide)
        have z54 : z.1 54 = p.1 54 := zn 54 (by decide) (by decide) (by decide)
        have es : srt z = srt p := by unfold srt; rw [z54, zr 55 (by decide)]
        refine ⟨by omega, by omega, fun i' i0 i1 => by rw [zr 56 (by decide), z132]; exact c3 i' i0 (by omega), ?_⟩
        rw [z132, z54]
        exact c4.keep es (fun j a b => zr j (by omega))
      have h3z : p.2.1 3 = z.2.1 3 := (zr 3 (by decide)).symm
      have eoz : ∀ j, 0 ≤ j → j < v.1 8 → ob z j = ob v j := fun j j0 j1 => by
        rw [← zE.ob hz.1 hXp.1 j0 (by omega), gp.ob hXv.1 j0 j1]
      refine ⟨fun hnm0 => ?_, fun hnm0 => ?_⟩
      · have hk1 : k = 1 := by rcases hk with ⟨_, q⟩ | ⟨q, _⟩ <;> omega
        refine hq 0 z _ (hran _ hprv) ⟨by rw [zn 64 (by decide) (by decide) (by decide)]; exact p64, ⟨by rw [zn 59 (by decide) (by decide) (by decide)]; exact p59, by rw [zr 12 (by decide)]; exact p12⟩, by rw [zn 60 (by decide) (by decide) (by decide)]; exact stp s' hs', by rw [if_neg (by decide)], by rw [zn 62 (by decide) (by decide) (by decide)]; exact b62, m, ?_, fun _ => bgz⟩
        show HX z (if k = 2 then Sp.addThm H (Ob.item (ob u a) 1) (ob w f) 2 else H) m
        rw [if_neg (by omega)]
        exact hz
      · have hk2 : k = 2 := by rcases hk with ⟨q, _⟩ | ⟨_, q⟩ <;> omega
        have eza : ob z a = ob u a := by rw [eoz a a0 (by omega)]; exact eva
        refine p_nthL hz.1 a0 (by omega) (by decide) (by rw [eza]; show (1 : Int) < _; omega) (fun N N0 N1 eN => ?_)
        rw [eza] at eN
        have eN : ob z N = Ob.item (ob u a) 1 := eN
        have nfp := (nfv.mono hXv.1 gp)
        have nfz := Nd_back hXp.1 hXp.2.1 hz.1 zE h3z nfp.1 (by have := nfv.2.1; omega)
        have efz : ob z f = ob w f := by rw [nfz.2, nfp.2]; exact efv
        refine p_addTheorem hz bgz ⟨N0, N1, by rw [eN]; exact hname hk2⟩ nfz.1 (by rw [efz]; exact zf) (by decide) (fun X hX' => ?_) (fun v2 m2 hv2 v254 v2n v212 => ?_)
        · intro q
          rw [eN] at q
          have hn0 : Sp.Env.thmOf (H.env []) (Ob.item (ob u a) 1) = none := by
            cases e : Sp.Env.thmOf (H.env []) (Ob.item (ob u a) 1) with
            | none => rfl
            | some X => exact absurd (Or.inr ⟨hk2, Or.inl (by rw [e]; rfl)⟩) hroom
          unfold Sp.Env.thmOf at hn0
          exact absurd (decide_eq_true q) (List.find?_eq_none.mp hn0 X hX')
        · rw [eN, efz] at hv2
          have z54 : z.1 54 = p.1 54 := zn 54 (by decide) (by decide) (by decide)
          refine hq 0 v2 _ (hran _ hprv) ⟨by rw [v2n 64 (by decide) (by decide), zn 64 (by decide) (by decide) (by decide)]; exact p64, ⟨by rw [v2n 59 (by decide) (by decide), zn 59 (by decide) (by decide) (by decide)]; exact p59, by rw [v212, zr 12 (by decide)]; exact p12⟩, by rw [v2n 60 (by decide) (by decide), zn 60 (by decide) (by decide) (by decide)]; exact stp s' hs', by rw [if_neg (by decide)], by rw [v2n 62 (by decide) (by decide), zn 62 (by decide) (by decide) (by decide)]; exact b62, m2, ?_, fun q => by omega⟩
          show HX v2 (if k = 2 then Sp.addThm H (Ob.item (ob u a) 1) (ob w f) 2 else H) m2
          rw [if_pos hk2]
          exact hv2
    refine ⟨fun hnm0 => ?_, fun hnm0 => ?_⟩
    · have hk1 : k = 1 := by rcases hk with ⟨_, q⟩ | ⟨q, _⟩ <;> omega
      unfold pw_defthm_131
      exact ⟨fun _ => work (by rintro (q | ⟨q, _⟩) <;> omega), fun q => absurd hnm0 q⟩
    · have hk2 : k = 2 := by rcases hk with ⟨q, _⟩ | ⟨_, q⟩ <;> omega
      refine p_nthL hXv.1 a0 (by omega) (by decide) (by rw [eva]; show (1 : Int) < _; omega) (fun N N0 N1 eN => ?_)
      rw [eva] at eN
      have eN : ob v N = Ob.item (ob u a) 1 := eN
      refine p_theoremOf hXv.1 hXv.2.1 hXv.2.2.1.2.2.2 N0 N1 (fun hn0 => ⟨fun _ => ?_, fun q => absurd rfl q⟩) (fun d d0 d1 _ hds _ => ⟨fun q => by omega, fun _ => none' 3 (by decide) ((R3 _).1 (Or.inr ⟨hk2, Or.inl ?_⟩) rfl)⟩)
      · rw [eN] at hn0
        have hn0 : Sp.Env.thmOf (H.env []) (Ob.item (ob u a) 1) = none := hn0
        unfold pw_defthm_131
        refine ⟨fun q => absurd q hnm0, fun _ => ?_⟩
        intro c ec _
        rw [ec]
        refine ⟨fun q => work ?_, fun q => none' 8 (by decide) ((R3 _).1 (Or.inr ⟨hk2, Or.inr (by omega)⟩) rfl)⟩
        rintro (q2 | ⟨_, q2 | q2⟩)
        · omega
        · rw [hn0] at q2; cases q2
        · omega
      · rw [eN] at hds
        have hds : Sp.Env.thmOf (H.env []) (Ob.item (ob u a) 1) = some (thm1 v d) := hds
        rw [hds]; rfl
  -- the beginning
  have go15 : pw_defthm_15 Q a nm (ob u a).len (k : Int) u := by
    unfold pw_defthm_15
    refine ⟨fun hc => bad0 (fun z => by omega), fun hc => ⟨fun h0 => go42 (by omega) (fun q => ?_), fun h0 => ?_⟩⟩
    · rcases hk with ⟨_, q'⟩ | ⟨q', _⟩ <;> omega
    · have hk2 : k = 2 := by rcases hk with ⟨q, _⟩ | ⟨_, q⟩ <;> omega
      refine p_nthL hT a0 a1 (by decide) (by omega) (fun N N0 N1 eN => ?_)
      have eN : ob u N = Ob.item (ob u a) 1 := eN
      refine p_isNewName hT hU N0 N1 (fun b hb => ⟨fun hz => go42 (by omega) (fun _ => by rw [← eN]; exact hb.t hz), fun hz => bad0 (fun z => ?_)⟩)
      have := z.2 hk2
      rw [← eN, hb.f (Decidable.not_not.mp hz)] at this
      cases this
  unfold pw_defthm
  refine p_lengthOf hT hU a0 a1 ⟨fun h0 => ?_, fun h0 => ?_⟩
  · have hk1 : k = 1 := by rcases hk with ⟨_, q⟩ | ⟨q, _⟩ <;> omega
    rw [hk1] at go15
    exact go15
  · have hk2 : k = 2 := by rcases hk with ⟨q, _⟩ | ⟨_, q⟩ <;> omega
    rw [hk2] at go15
    exact go15
