-- deps: 519
theorem p_defun [DecidableEq Ob] {a : Int} {Q : Int → iST → Prop} {u : iST} {H : Sp.Hs} {fuel : Nat} (hI : CmI u H fuel a) (ho : Ob.lft (ob u a) = Ob.defun) (hq : ∀ ans v r, Sp.Ran H fuel (ob u a) r → CmO u v r ans → Q ans v) : pw_defun a Q u := by
  obtain ⟨hX, bg, ⟨h71, h64, h61, h60, h59, h62, h63⟩, a0, a1⟩ := hI
  have hT := hX.1
  have hU := hX.2.1
  obtain ⟨hD, h57, hW, hTk⟩ := hX.2.2.1
  have no : ∀ (ans : Int) (v : iST), GZ f7K u v → v.1 64 = 0 → v.1 60 = 0 → v.1 62 = 0 → ¬ (ans = 5 ∨ ans = 6) → Sp.RanD H fuel (ob u a) (Sp.nothing H) → Q ans v := fun ans v g v64 v60 v62 ha hr => hq ans v _ (Ran_defun ho hr) (CmO.no hX bg g v64 v60 v62 ha)
  have bad1 : ¬ (((ob u a).len = 4 ∨ (ob u a).len = 5) ∧ Ob.isName (Ob.item (ob u a) 1) = true ∧ Ob.len (Ob.item (ob u a) 2) ≠ -1 ∧ (Ob.toList (Ob.item (ob u a) 2)).length ≤ 6 ∧ Sp.areVars (Ob.toList (Ob.item (ob u a) 2)) = true) → Q 2 u := fun h => no 2 u (GZ.rf hT hU) h64 h60 h62 (by decide) (RanD_1 h)
  have go : ((ob u a).len = 4 ∨ (ob u a).len = 5) → pw_defun_16 Q a (ob u a).len u := by
    intro hl
    unfold pw_defun_16
    refine p_nthL hT a0 a1 (by decide) (by omega) (fun f f0 f1 ef => ?_)
    have ef : ob u f = Ob.item (ob u a) 1 := ef
    refine p_isNewName hT hU f0 f1 (fun b hb => ⟨fun hz => bad1 (fun z => by rw [← ef, hb.f hz] at z; exact absurd z.2.1 (by decide)), fun hz => ?_⟩)
    have hn : Ob.isName (Ob.item (ob u a) 1) = true := by rw [← ef]; exact hb.t hz
    refine p_nthL hT a0 a1 (by decide) (by omega) (fun l0 l00 l01 el0 => ?_)
    have el0 : ob u l0 = Ob.item (ob u a) 2 := el0
    refine p_areVariables hT hU l00 l01 (fun b2 hb2 => ⟨fun hz2 => ?_, fun hz2 => bad1 (fun z => ?_)⟩)
    rotate_left
    · have h0 := hb2.f (Decidable.not_not.mp hz2)
      rw [el0, decide_eq_true z.2.2.1, z.2.2.2.2, decide_eq_true (by rw [Ob.len_toList z.2.2.1]; have := z.2.2.2.1; omega)] at h0
      exact absurd h0 (by decide)
    have h1 := hb2.t hz2
    rw [el0, Bool.and_eq_true, Bool.and_eq_true, decide_eq_true_eq, decide_eq_true_eq] at h1
    obtain ⟨⟨hlen, hl6⟩, hvars⟩ := h1
    have hll := Ob.len_toList hlen
    refine p_nthL hT a0 a1 (by decide) (by omega) (fun fn fn0 fn1 efn => ?_)
    have efn : ob u fn = Ob.item (ob u a) 1 := efn
    refine p_nthL hT a0 a1 (by decide) (by omega) (fun l ll0 ll1 el => ?_)
    have el : ob u l = Ob.item (ob u a) 2 := el
    have cond : ((ob u a).len = 4 ∨ (ob u a).len = 5) ∧ Ob.isName (Ob.item (ob u a) 1) = true ∧ Ob.len (Ob.item (ob u a) 2) ≠ -1 ∧ (Ob.toList (Ob.item (ob u a) 2)).length ≤ 6 ∧ Sp.areVars (Ob.toList (Ob.item (ob u a) 2)) = true := ⟨hl, hn, hlen, by omega, hvars⟩
    intro w1 ew1
    have g1 : GZ (fun _ => true) u w1 := by rw [ew1]; exact GZ_eq (GZ.rf hT hU) (fun k hk => ⟨if_neg (by omega), rfl⟩) rfl (fun k z => by cases z)
    have e1o : ∀ j, ob w1 j = ob u j := by rw [ew1]; exact ob_same rfl rfl rfl rfl rfl
    refine p_lengthOf g1.1 g1.2.1 ll0 (by rw [ew1]; exact ll1) ?_
    intro w2 ew2
    have w2r : w2.2 = u.2 := by rw [ew2, ew1]; rfl
    have w2n : ∀ k, k ≠ 57 → k ≠ 58 → w2.1 k = u.1 k := fun k b c => by rw [ew2, ew1]; exact (if_neg c).trans (if_neg b)
    have w257 : w2.1 57 = fn := by rw [ew2, ew1]; rfl
    have w258 : w2.1 58 = ((Ob.toList (Ob.item (ob u a) 2)).length : Int) := by
      rw [← hll, ← el, ← e1o, ew2]; rfl
    clear ew2 ew1 e1o g1
    have g2 : GZ (fun _ => true) u w2 := GZ_eq (GZ.rf hT hU) (fun k hk => ⟨w2n k (by omega) (by omega), by rw [w2r]⟩) (by rw [w2r]) (fun k z => by cases z)
    have e2o : ∀ j, ob w2 j = ob u j := ob_same (by rw [w2r]) (by rw [w2r]) (by rw [w2r]) (by rw [w2r]) (by rw [w2r])
    have w28 : w2.1 8 = u.1 8 := w2n 8 (by decide) (by decide)
    have D2 : DOk w2 (H.env []) := hD.mono hT g2 ⟨w2n 35 (by decide) (by decide), by rw [w2r], by rw [w2r], by rw [w2r], by rw [w2r], by rw [w2r], by rw [w2r]⟩
    refine p_nthL g2.1 a0 (by omega) (by decide) (by rw [e2o]; show (3 : Int) < _; omega) (fun b3 b30 b31 eb3 => ?_)
    rw [e2o, e2o] at eb3
    have eb3 : ob u b3 = Ob.item (ob u a) 3 := eb3
    refine p_termC (E := H.env []) (f := fn) g2.1 g2.2.1 D2 fn0 (by omega) (by rw [e2o, efn]; exact hn) w257 (by rw [w258]; omega) b30 b31 (by rw [w2n 71 (by decide) (by decide)]; omega) (fun k v gv v61 hk => ?_)
    rw [e2o, e2o, efn, w258, eb3] at hk
    have e57 : v.1 57 = fn := ((gv.1.2.2.2.2 57 (by decide)).1).trans w257
    have e58 : v.1 58 = ((Ob.toList (Ob.item (ob u a) 2)).length : Int) := ((gv.1.2.2.2.2 58 (by decide)).1).trans w258
    have gu : GZ (fun _ => true) u v := g2.tr (gv.1.mono (fun k z => by cases z))
    -- with the terms
    have fin : ∀ (y0 : Int) (v2 : iST), GM w2 v2 → v2.1 61 = 0 → (k = -1 ∨ NdA v2 (Sp.arC (H.env []) (Ob.item (ob u a) 1) ((Ob.toList (Ob.item (ob u a) 2)).length : Int)) k) → (k ≠ -1 → Ob.rdT (Sp.arC (H.env []) (Ob.item (ob u a) 1) ((Ob.toList (Ob.item (ob u a) 2)).length : Int)) (Ob.item (ob u a) 3) = some (ob v2 k) ∧ (ob v2 k).sz ≤ 120) → (k = -1 → Ob.rdT (Sp.arC (H.env []) (Ob.item (ob u a) 1) ((Ob.toList (Ob.item (ob u a) 2)).length : Int)) (Ob.item (ob u a) 3) = none) →
        ((ob u a).len = 5 → (Ob.rdT (Sp.arC (H.env []) (Ob.item (ob u a) 1) ((Ob.toList (Ob.item (ob u a) 2)).length : Int)) (Ob.item (ob u a) 4) = none ∧ y0 = -1) ∨ (NdA v2 (Sp.arC (H.env []) (Ob.item (ob u a) 1) ((Ob.toList (Ob.item (ob u a) 2)).length : Int)) y0 ∧ Ob.rdT (Sp.arC (H.env []) (Ob.item (ob u a) 1) ((Ob.toList (Ob.item (ob u a) 2)).length : Int)) (Ob.item (ob u a) 4) = some (ob v2 y0))) → pw_defun_107 Q (ob u a).len fn l k y0 v2 := by
      intro y0 v2 gm2 v261 hk1 hk2 hk3 hy
      unfold pw_defun_107
      intro t et
      have g : GZ f7K u t := df_back hT hU w2r w2n gm2 h57 et
      have gvt : GZ (fun _ => true) v2 t := by rw [et]; exact GZ_eq (GZ.rf gm2.1.1 gm2.1.2.1) (fun k hk => ⟨if_neg (by omega), rfl⟩) rfl (fun k z => by cases z)
      have tn : ∀ j, j ≠ 57 → t.1 j = v2.1 j := fun j hj => by rw [et]; exact if_neg hj
      have tmn : ∀ j, j ≠ 57 → j ≠ 58 → f7M j = false → t.1 j = u.1 j := fun j b c d => by rw [tn j b, (gm2.1.2.2.2.2 j d).1, w2n j b c]
      have t64 : t.1 64 = 0 := by rw [tmn 64 (by decide) (by decide) (by decide)]; exact h64
      have t60 : t.1 60 = 0 := by rw [tmn 60 (by decide) (by decide) (by decide)]; exact h60
      have t62 : t.1 62 = 0 := by rw [tmn 62 (by decide) (by decide) (by decide)]; exact h62
      have t61 : t.1 61 = 0 := by rw [tn 61 (by decide)]; exact v261
      have t71 : t.1 71 = 0 := by rw [tn 71 (by decide), gm2.2.1, w2n 71 (by decide) (by decide)]; exact h71
      clear et
      have hle := g.le
      have e3 : ob t fn = Ob.item (ob u a) 1 := by rw [g.ob hT fn0 fn1]; exact efn
      have e4 : ob t l = Ob.ofList (Ob.toList (Ob.item (ob u a) 2)) := by rw [g.ob hT ll0 ll1, el, Ob.ofList_toList _ hlen]
      refine ⟨fun hkz => no 2 t g t64 t60 t62 (by decide) (RanD_2 (hk3 hkz)), fun hkz => ?_⟩
      have nk2 := hk1.resolve_left hkz
      obtain ⟨ek2, zk2⟩ := hk2 hkz
      obtain ⟨nk, ek⟩ := nk2.mono gm2.1.1 gvt
      -- behind the form of the terms
      have go131 : ∀ m : Option Ob, ((ob u a).len ≠ 5 ∧ m = none ∨ (ob u a).len = 5 ∧ m = some (ob t y0) ∧ NdA t (Sp.arC (H.env []) (Ob.item (ob u a) 1) ((Ob.toList (Ob.item (ob u a) 2)).length : Int)) y0) → (if Ob.len (ob u a) = 5 then (Ob.rdT (Sp.arC (H.env []) (Ob.item (ob u a) 1) (Ob.toList (Ob.item (ob u a) 2)).length) (Ob.item (ob u a) 4)).map some else some none) = some m → pw_defun_131 Q (ob u a).len fn l k y0 t := by
        intro m hm hm3
        have R4 := fun r => RanD_4 (H := H) (fuel := fuel) (o := ob u a) (B := ob v2 k) (m := m) (r := r) cond ek2 hm3
        have no4 : ∀ (ans : Int) (v : iST), GZ f7K t v → v.1 64 = 0 → v.1 60 = 0 → v.1 62 = 0 → ¬ (ans = 5 ∨ ans = 6) → (¬ Sp.dfOk (ob u a) (ob v2 k) m ∨ (Sp.dfOk (ob u a) (ob v2 k) m ∧ ((Sp.Env.dfn (H.env []) (Ob.item (ob u a) 1)).isSome = true ∨ H.1.length = 40))) → Q ans v := by
          intro ans v gv' v64 v60 v62 ha hor
          refine no ans v (g.tr gv') v64 v60 v62 ha ?_
          rcases hor with q | ⟨q1, q2⟩
          · exact (R4 _).1 q rfl
          · exact (R4 _).2.1 q1 q2 rfl
        unfold pw_defun_131
        refine p_hasOnly g.1 g.2.1 nk ll0 (by omega) (by rw [e4, Ob.len_ofList]; omega) (fun r1 p gp hr1 => ?_)
        rw [ek, e4, Ob.toList_ofList] at hr1
        have gtp : GZ f7K t p := gp.mono f7A_K
        have p64 : p.1 64 = 0 := by rw [(gp.2.2.2.2 64 (by decide)).1]; exact t64
        have p60 : p.1 60 = 0 := by rw [(gp.2.2.2.2 60 (by decide)).1]; exact t60
        have p62 : p.1 62 = 0 := by rw [(gp.2.2.2.2 62 (by decide)).1]; exact t62
        refine ⟨fun hz1 => ?_, fun hz1 => no4 2 p gtp p64 p60 p62 (by decide) (Or.inl (fun z => by
          have h0 := hr1.f (Decidable.not_not.mp hz1)
          rw [z.2.1] at h0; cases h0))⟩
        have vB := hr1.t hz1
        obtain ⟨nkp, ekp⟩ := nk.mono g.1 gtp
        have hlp := gtp.le
        have e3p : ob p fn = Ob.item (ob u a) 1 := by rw [gtp.ob g.1 fn0 (by omega)]; exact e3
        -- once it is known whether it calls itself
        have go165 : ∀ (x7 : Int) (q : iST), GZ f7K t q → q.1 64 = 0 → q.1 60 = 0 → q.1 62 = 0 → q.1 61 = 0 → q.1 71 = 0 → (x7 = 0 ∨ x7 = 1) → bq x7 (Sp.hasCall (ob v2 k) (Ob.item (ob u a) 1)) → ∀ y1, ((ob u a).len ≠ 5 ∧ y1 = 0 ∨ (ob u a).len = 5 ∧ y1 = 1) → pw_defun_165 Q (ob u a).len fn l k y0 x7 x7 y1 q := by
          intro x7 q gq q64 q60 q62 q61 q71 h01 h7 y1 hy1
          have hlq := gq.le
          obtain ⟨nkq, ekq⟩ := nk.mono g.1 gq
          have e3q : ob q fn = Ob.item (ob u a) 1 := by rw [gq.ob g.1 fn0 (by omega)]; exact e3
          have e4q : ob q l = Ob.ofList (Ob.toList (Ob.item (ob u a) 2)) := by rw [gq.ob g.1 ll0 (by omega)]; exact e4
          unfold pw_defun_165
          refine ⟨fun heq => ?_, fun hne => no4 2 q gq q64 q60 q62 (by decide) (Or.inl (fun z => ?_))⟩
          · have go198 : ∀ p2 : iST, GZ f7K q p2 → p2.1 64 = 0 → p2.1 60 = 0 → p2.1 62 = 0 → p2.1 61 = 0 → p2.1 71 = 0 → (∀ M, M ∈ m → (Ob.parts M).all (fun x => !Ob.isVar x || Ob.has (Ob.toList (Ob.item (ob u a) 2)) x) = true ∧ ¬ Sp.hasCall M (Ob.item (ob u a) 1) = true) → pw_defun_198 Q fn l k y0 x7 p2 := by
              intro p2 gp2 a64 a60 a62 a61 a71 hM
              have gtp2 := gq.tr gp2
              have gup := g.tr gtp2
              have hlp2 := gtp2.le
              obtain ⟨nkp2, ekp2⟩ := nk.mono g.1 gtp2
              refine df_198 (u := u) (t := p2) (H := H) (fuel := fuel) (o := ob u a) (B := ob v2 k) (xs := Ob.toList (Ob.item (ob u a) 2)) (m := m) hX bg h71 h60 h59 gup a71 a64 a61 a60 a62 ⟨fn0, by omega⟩ (by rw [gtp2.ob g.1 fn0 (by omega)]; exact e3) hn ⟨ll0, by omega⟩ (by rw [gtp2.ob g.1 ll0 (by omega)]; exact e4) rfl ⟨by omega, hvars⟩ nkp2 (by rw [ekp2, ek]) zk2 h7 ?_ vB hM (fun ans v gv' => no4 ans v (gtp2.tr gv')) (fun ans v r hdf hroom hdr ho' => hq ans v r (Ran_defun ho ((R4 r).2.2 hdf hroom hdr)) ho')
              rcases hm with ⟨b1, b2⟩ | ⟨b1, b2, b3⟩
              · refine Or.inl ⟨?_, b2⟩
                rcases hy1 with ⟨_, c⟩ | ⟨c, _⟩
                · omega
                · exact absurd c b1
              · refine Or.inr ⟨?_, ?_, (b3.mono g.1 gtp2).1⟩
                · rcases hy1 with ⟨c, _⟩ | ⟨_, c⟩
                  · exact absurd b1 c
                  · omega
                · rw [b2, (b3.mono g.1 gtp2).2]
            refine ⟨fun h5 => go198 q (GZ.rf gq.1 gq.2.1) q64 q60 q62 q61 q71 (fun M hM => ?_), fun h5 => ?_⟩
            · rcases hm with ⟨_, b2⟩ | ⟨b1, _⟩
              · rw [b2] at hM; cases hM
              · exact absurd b1 h5
            · obtain ⟨b1, b2, b3⟩ := hm.resolve_left (fun z => h5 z.1)
              obtain ⟨n6, e6⟩ := b3.mono g.1 gq
              refine p_hasOnly gq.1 gq.2.1 n6 ll0 (by omega) (by rw [e4q, Ob.len_ofList]; omega) (fun r2 p2 gp2 hr2 => ?_)
              rw [e6, e4q, Ob.toList_ofList] at hr2
              have gqp : GZ f7K q p2 := gp2.mono f7A_K
              have a64 : p2.1 64 = 0 := by rw [(gp2.2.2.2.2 64 (by decide)).1]; exact q64
              have a60 : p2.1 60 = 0 := by rw [(gp2.2.2.2.2 60 (by decide)).1]; exact q60
              have a62 : p2.1 62 = 0 := by rw [(gp2.2.2.2.2 62 (by decide)).1]; exact q62
              have a61 : p2.1 61 = 0 := by rw [(gp2.2.2.2.2 61 (by decide)).1]; exact q61
              have a71 : p2.1 71 = 0 := by rw [(gp2.2.2.2.2 71 (by decide)).1]; exact q71
              refine ⟨fun hz2 => no4 2 p2 (gq.tr gqp) a64 a60 a62 (by decide) (Or.inl (fun z => ?_)), fun hz2 => ?_⟩
              · have := (z.2.2.1 (ob t y0) (by rw [b2]; rfl)).1
                rw [hr2.f hz2] at this; cases this
              obtain ⟨n62, e62⟩ := n6.mono gq.1 gqp
              have hlp2 := gqp.le
              have e3p2 : ob p2 fn = Ob.item (ob u a) 1 := by rw [gqp.ob gq.1 fn0 (by omega)]; exact e3q
              refine p_hasCallZ gp2.1 gp2.2.1 n62 fn0 (by omega) (fun z gz hz => ⟨fun _ => ?_, fun q => absurd rfl q⟩) (fun z gz hz => ⟨fun q => absurd q (by decide), fun _ => no4 2 z (gq.tr (gqp.tr (gz.mono f7W_K))) ?_ ?_ ?_ (by decide) (Or.inl (fun q => ?_))⟩)
              · rw [e62, e6, e3p2] at hz
                refine go198 z (gqp.tr (gz.mono f7W_K)) ?_ ?_ ?_ ?_ ?_ (fun M hM => ?_)
                · rw [(gz.2.2.2.2 64 (by decide)).1]; exact a64
                · rw [(gz.2.2.2.2 60 (by decide)).1]; exact a60
                · rw [(gz.2.2.2.2 62 (by decide)).1]; exact a62
                · rw [(gz.2.2.2.2 61 (by decide)).1]; exact a61
                · rw [(gz.2.2.2.2 71 (by decide)).1]; exact a71
                · rw [b2] at hM
                  have hM : some (ob t y0) = some M := hM
                  rw [← Option.some.inj hM]
                  exact ⟨hr2.t hz2, by rw [hz]; decide⟩
              · rw [(gz.2.2.2.2 64 (by decide)).1]; exact a64
              · rw [(gz.2.2.2.2 60 (by decide)).1]; exact a60
              · rw [(gz.2.2.2.2 62 (by decide)).1]; exact a62
              · rw [e62, e6, e3p2] at hz
                exact (q.2.2.1 (ob t y0) (by rw [b2]; rfl)).2 hz
          · have hi := z.1
            apply hne
            rcases hm with ⟨b1, b2⟩ | ⟨b1, b2, b3⟩
            · rw [b2] at hi
              have : x7 = 0 := h7.mpr (by
                cases e : Sp.hasCall (ob v2 k) (Ob.item (ob u a) 1) with
                | false => rfl
                | true => have := hi.mp e; cases this)
              rcases hy1 with ⟨_, c⟩ | ⟨c, _⟩
              · omega
              · exact absurd c b1
            · rw [b2] at hi
              have hc := hi.mpr rfl
              have : x7 ≠ 0 := fun q => by rw [h7.mp q] at hc; cases hc
              rcases hy1 with ⟨c, _⟩ | ⟨_, c⟩
              · exact absurd b1 c
              · omega
        refine p_hasCallZ gp.1 gp.2.1 nkp fn0 (by omega) (fun q gq hz => ?_) (fun q gq hz => ?_)
        all_goals
          rw [ekp, ek, e3p] at hz
          have gtq := gtp.tr (gq.mono f7W_K)
          have q64 : q.1 64 = 0 := by rw [(gq.2.2.2.2 64 (by decide)).1]; exact p64
          have q60 : q.1 60 = 0 := by rw [(gq.2.2.2.2 60 (by decide)).1]; exact p60
          have q62 : q.1 62 = 0 := by rw [(gq.2.2.2.2 62 (by decide)).1]; exact p62
          have q61 : q.1 61 = 0 := by rw [(gq.2.2.2.2 61 (by decide)).1, (gp.2.2.2.2 61 (by decide)).1]; exact t61
          have q71 : q.1 71 = 0 := by rw [(gq.2.2.2.2 71 (by decide)).1, (gp.2.2.2.2 71 (by decide)).1]; exact t71
        · exact ⟨fun h5 => go165 0 q gtq q64 q60 q62 q61 q71 (Or.inl rfl) (bq0 hz) 0 (Or.inl ⟨h5, rfl⟩), fun h5 => go165 0 q gtq q64 q60 q62 q61 q71 (Or.inl rfl) (bq0 hz) 1 (Or.inr ⟨Decidable.not_not.mp h5, rfl⟩)⟩
        · exact ⟨fun h5 => go165 1 q gtq q64 q60 q62 q61 q71 (Or.inr rfl) (bq1 hz) 0 (Or.inl ⟨h5, rfl⟩), fun h5 => go165 1 q gtq q64 q60 q62 q61 q71 (Or.inr rfl) (bq1 hz) 1 (Or.inr ⟨Decidable.not_not.mp h5, rfl⟩)⟩
      refine ⟨fun h5 => go131 none (Or.inl ⟨h5, rfl⟩) (by rw [if_neg h5]), fun h5 => ?_⟩
      have h5 := Decidable.not_not.mp h5
      rcases hy h5 with ⟨y1, y2⟩ | ⟨y1, y2⟩
      · exact ⟨fun _ => no 2 t g t64 t60 t62 (by decide) (RanD_3 h5 y1), fun z => absurd y2 z⟩
      · obtain ⟨ny, ey⟩ := y1.mono gm2.1.1 gvt
        refine ⟨fun z => absurd ny.1 (by omega), fun _ => go131 (some (ob t y0)) (Or.inr ⟨h5, rfl, ny⟩) ?_⟩
        rw [if_pos h5, y2, ey]
        rfl
    have v61' : v.1 61 = 0 := by rw [v61, w2n 61 (by decide) (by decide)]; exact h61
    refine ⟨fun h5 => fin (-1) v gv v61' ?_ ?_ ?_ (fun z => absurd z h5), fun h5 => ?_⟩
    · rcases hk with ⟨_, q⟩ | ⟨q, _⟩
      · exact Or.inl q
      · exact Or.inr q.1
    · intro z
      rcases hk with ⟨_, q⟩ | ⟨q, q2⟩
      · exact absurd q z
      · exact ⟨q2, q.2⟩
    · intro z
      rcases hk with ⟨q, _⟩ | ⟨q, _⟩
      · exact q
      · have := q.1.1; omega
    · have h5 := Decidable.not_not.mp h5
      have hle := gu.le
      have eva : ob v a = ob u a := gu.ob hT a0 a1
      refine p_nthL gv.1.1 a0 (by omega) (by decide) (by rw [eva]; omega) (fun m4 m40 m41 em4 => ?_)
      rw [eva] at em4
      have em4 : ob v m4 = Ob.item (ob u a) 4 := em4
      have Dv : DOk v (H.env []) := D2.mono g2.1 gv.1 (DSm.of gv.1.2.2.2.2 (by decide) (by decide) (by decide) (by decide) (by decide) (by decide) (by decide))
      have evf : ob v fn = Ob.item (ob u a) 1 := by rw [gu.ob hT fn0 fn1]; exact efn
      refine p_termC (E := H.env []) (f := fn) gv.1.1 gv.1.2.1 Dv fn0 (by omega) (by rw [evf]; exact hn) e57 (by rw [e58]; omega) m40 m41 (by rw [gv.2.1, w2n 71 (by decide) (by decide)]; omega) (fun y0 v2 gv2 v261 hy => ?_)
      rw [evf, e58, em4] at hy
      refine fin y0 v2 (gv.tr gv2) (v261.trans v61') ?_ ?_ ?_ (fun _ => ?_)
      · rcases hk with ⟨_, q⟩ | ⟨q, _⟩
        · exact Or.inl q
        · exact Or.inr (q.1.mono gv.1.1 gv2.1).1
      · intro z
        rcases hk with ⟨_, q⟩ | ⟨q, q2⟩
        · exact absurd q z
        · rw [(q.1.mono gv.1.1 gv2.1).2]; exact ⟨q2, q.2⟩
      · intro z
        rcases hk with ⟨q, _⟩ | ⟨q, _⟩
        · exact q
        · have := q.1.1; omega
      · rcases hy with q | ⟨q, q2⟩
        · exact Or.inl q
        · exact Or.inr ⟨q.1, q2⟩
  unfold pw_defun
  refine p_lengthOf hT hU a0 a1 ?_
  exact ⟨fun c => go (Or.inl c), fun c => ⟨fun d => bad1 (fun z => z.1.elim c d), fun d => go (Or.inr (Decidable.not_not.mp d))⟩⟩
