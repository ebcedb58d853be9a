-- deps: 518
/-! the reference: defun -/
theorem p_hasCallZ [DecidableEq Ob] {a f : Int} {Q : Int → iST → Prop} {u : iST} {ar : Ob → Int} (hT : TI u) (hU : TU u) (na : NdA u ar a) (f0 : 0 ≤ f) (f1 : f < u.1 8) (h0 : ∀ v, GZ f7W u v → Sp.hasCall (ob u a) (ob u f) = false → Q 0 v) (h1 : ∀ v, GZ f7W u v → Sp.hasCall (ob u a) (ob u f) = true → Q 1 v) : pw_hasCall a f Q u := by
  unfold pw_hasCall
  intro w ew
  refine p_walk0 hT hU na (fun v gv wv tv => ?_) ew
  refine pw_hasCall_10_i (fun x2 v => x2 = f ∧ GZ f7W u v ∧ WkO v ar ∧ Sp.hasCall (ob u a) (ob u f) = (todo v).any (fun x => Ob.isCallOf x (ob u f))) ?_ ⟨rfl, gv, wv, by rw [tv]; rfl⟩
  intro x2 v hI
  obtain ⟨e2, gv, wv, hv⟩ := hI
  rw [e2]
  unfold pw_hasCall_10b
  intro y ey _
  refine ⟨fun hc _ => h0 v gv (by rw [hv, todo_nil (by omega)]; rfl), fun hc => ?_⟩
  refine p_walkOn gv.1 gv.2.1 wv (by omega) (fun k t gt wt nk et => ?_)
  have gut := gv.tr gt
  have ef := gut.ob hT f0 f1
  refine p_isCallOf gt.1 gt.2.1 nk.1 nk.2.1 f0 (by have := gut.le; omega) (fun r hr => ?_)
  rw [ef] at hr
  rw [et, List.any_cons] at hv
  refine ⟨fun hz => ⟨rfl, gut, wt, ?_⟩, fun hz _ => h1 t gut ?_⟩
  · rw [hv, hr.f hz]; rfl
  · rw [hv, hr.t hz]; rfl
/-- a term, while a function is coming -/
theorem p_termC [DecidableEq Ob] {a f : Int} {Q : Int → iST → Prop} {v : iST} {E : Sp.Env} (hT : TI v) (hU : TU v) (hD : DOk v E) (f0 : 0 ≤ f) (f1 : f < v.1 8) (hn : (ob v f).isName = true) (v57 : v.1 57 = f) (v58 : 0 ≤ v.1 58) (a0 : 0 ≤ a) (a1 : a < v.1 8) (h71 : 0 ≤ v.1 71)
    (hq : ∀ k w, GM v w → w.1 61 = v.1 61 → (Ob.rdT (Sp.arC E (ob v f) (v.1 58)) (ob v a) = none ∧ k = -1) ∨ ((NdA w (Sp.arC E (ob v f) (v.1 58)) k ∧ (ob w k).sz ≤ 120) ∧ Ob.rdT (Sp.arC E (ob v f) (v.1 58)) (ob v a) = some (ob w k)) → Q k w) : pw_termOf a Q v := by
  have g : GZ (fun _ => true) v (iI v 57 (-1)) := GZ_eq (GZ.rf hT hU) (fun k hk => ⟨if_neg (by omega), rfl⟩) rfl (fun k z => by cases z)
  have eo : ∀ j, ob (iI v 57 (-1)) j = ob v j := ob_same rfl rfl rfl rfl rfl
  have hD' : DOk (iI v 57 (-1)) E := hD.mono hT g ⟨rfl, rfl, rfl, rfl, rfl, rfl, rfl⟩
  have hA : ArOk v (Sp.arC E (ob v f) (v.1 58)) := by
    have := ArOk_coming (u := iI v 57 (-1)) (w := v) (E := E) g.1 g.2.1 hD' rfl (n := f) f0 f1 (by rw [eo]; exact hn) rfl (fun k a b => (if_neg a).symm) v57 v58
    rw [eo] at this
    exact this
  have hs0 : ∀ x : Ob, x.isSym = false → Sp.arC E (ob v f) (v.1 58) x = -1 := fun x hx => by
    unfold Sp.arC
    rw [if_neg (fun z => by rw [z, (isName_base hn).2.1] at hx; cases hx)]
    exact arOf_sym hD.names x hx
  refine p_termOf hT hU hA hs0 a0 a1 h71 (fun k w gw w61 h => hq k w gw w61 ?_)
  rcases h with h | ⟨k0, k1, e, t⟩
  · exact Or.inl h
  · obtain ⟨w', z⟩ := rdT_wt hs0 e
    exact Or.inr ⟨⟨⟨k0, k1, t, w'⟩, z⟩, e⟩
theorem df_back [DecidableEq Ob] {u w2 v t : iST} (hT : TI u) (hU : TU u) (hw2 : w2.2 = u.2) (hwn : ∀ k, k ≠ 57 → k ≠ 58 → w2.1 k = u.1 k) (gm : GM w2 v) (h57 : u.1 57 = -1) (et : t = iI v 57 (-1)) : GZ f7K u t := by
  have g0 : GZ (fun _ => true) u w2 := GZ_eq (GZ.rf hT hU) (fun k hk => ⟨hwn k (by omega) (by omega), by rw [hw2]⟩) (by rw [hw2]) (fun k z => by cases z)
  have g2 : GZ (fun _ => true) v t := by rw [et]; exact GZ_eq (GZ.rf gm.1.1 gm.1.2.1) (fun k hk => ⟨if_neg (by omega), rfl⟩) rfl (fun k z => by cases z)
  have g := (g0.tr (gm.1.mono (n' := fun _ => true) (fun k z => by cases z))).tr g2
  refine ⟨g.1, g.2.1, g.2.2.1, g.2.2.2.1, fun k hk => ?_⟩
  have hm := gm.1.2.2.2.2 k (f7M_K k hk)
  have tr : t.2.1 k = u.2.1 k := by rw [et]; show v.2.1 k = _; rw [hm.2, hw2]
  have hin := f7K_in hk
  by_cases c : k = 57
  · refine ⟨?_, tr⟩
    rw [c, h57, et]; rfl
  · refine ⟨?_, tr⟩
    rw [et]
    show (if k = 57 then (-1 : Int) else v.1 k) = _
    rw [if_neg c, hm.1, hwn k c (by omega)]
/-- from the PATHS on -/
theorem df_198 [DecidableEq Ob] {x3 x4 x5 x6 x7 : Int} {Q : Int → iST → Prop} {u t : iST} {H : Sp.Hs} {fuel : Nat} {o B : Ob} {xs : List Ob} {m : Option Ob} (hX : HX u H []) (bg : BgOk u) (h71 : u.1 71 = 0) (h60 : u.1 60 = 0) (h59 : u.1 59 = (fuel : Int))
    (g : GZ f7K u t) (t71 : t.1 71 = 0) (t64 : t.1 64 = 0) (t61 : t.1 61 = 0) (t60 : t.1 60 = 0) (t62 : t.1 62 = 0)
    (n3 : 0 ≤ x3 ∧ x3 < t.1 8) (e3 : ob t x3 = Ob.item o 1) (hn : (Ob.item o 1).isName = true) (n4 : 0 ≤ x4 ∧ x4 < t.1 8) (e4 : ob t x4 = Ob.ofList xs) (exs : Ob.toList (Ob.item o 2) = xs) (hxs : xs.length ≤ 6 ∧ Sp.areVars xs = true)
    (n5 : NdA t (Sp.arC (H.env []) (Ob.item o 1) (xs.length : Int)) x5) (e5 : ob t x5 = B) (zB : B.sz ≤ 120)
    (h7 : bq x7 (Sp.hasCall B (Ob.item o 1))) (hm7 : x7 = 0 ∧ m = none ∨ x7 = 1 ∧ m = some (ob t x6) ∧ NdA t (Sp.arC (H.env []) (Ob.item o 1) (xs.length : Int)) x6)
    (vB : (Ob.parts B).all (fun x => !Ob.isVar x || Ob.has xs x) = true) (hM : ∀ M, M ∈ m → (Ob.parts M).all (fun x => !Ob.isVar x || Ob.has xs x) = true ∧ ¬ Sp.hasCall M (Ob.item o 1) = true)
    (hno : ∀ ans v, GZ f7K t v → v.1 64 = 0 → v.1 60 = 0 → v.1 62 = 0 → ¬ (ans = 5 ∨ ans = 6) → (¬ Sp.dfOk o B m ∨ (Sp.dfOk o B m ∧ ((Sp.Env.dfn (H.env []) (Ob.item o 1)).isSome = true ∨ H.1.length = 40))) → Q ans v)
    (hq : ∀ ans v r, Sp.dfOk o B m → ¬ ((Sp.Env.dfn (H.env []) (Ob.item o 1)).isSome = true ∨ H.1.length = 40) → Sp.dfR H fuel (Ob.item o 1) xs B m r → CmO u v r ans → Q ans v) : pw_defun_198 Q x3 x4 x5 x6 x7 t := by
  obtain ⟨nb, nsym, nq, _, _⟩ := isName_base hn
  have hT := g.1
  have hU := g.2.1
  have hXt := hX.keep g
  have bgt := bg.keep g
  have hiff : Sp.hasCall B (Ob.item o 1) = true ↔ m.isSome = true := by
    rcases hm7 with ⟨a, b⟩ | ⟨a, b, _⟩
    · rw [h7.f a, b]; exact ⟨fun z => (by cases z), fun z => by cases z⟩
    · rw [h7.t (by rw [a]; decide), b]; exact ⟨fun _ => rfl, fun _ => rfl⟩
  have hok : Sp.dfOk o B m ↔ Sp.flat (Ob.item o 1) B = true := by
    unfold Sp.dfOk
    rw [exs]
    exact ⟨fun z => z.2.2.2, fun z => ⟨hiff, vB, hM, z⟩⟩
  -- an environment that has the coming function
  have ear : Sp.arOf ((Ob.item o 1, xs, Ob.nil, none) :: H.1, H.2.1, []) = Sp.arC (H.env []) (Ob.item o 1) (xs.length : Int) := funext (fun f => arOf_cons' (D := (Ob.item o 1, xs, Ob.nil, none)) (m := []) nb f)
  have n5' : Nd t ((Ob.item o 1, xs, Ob.nil, none) :: H.1, H.2.1, []) x5 := ⟨n5.1, n5.2.1, n5.2.2.1, by rw [ear]; exact n5.2.2.2⟩
  have wB : Ob.wt (Sp.arC (H.env []) (Ob.item o 1) (xs.length : Int)) B := by rw [← e5]; exact n5.2.2.2
  have wB' : Ob.wt (Sp.arOf ((Ob.item o 1, xs, Ob.nil, none) :: H.1, H.2.1, [])) B := by rw [ear]; exact wB
  have nnot : Ob.item o 1 ≠ Ob.not := fun z => by rw [z, isBase_not] at nb; cases nb
  have d0 := hXt.2.2.1.1.2.1
  have dl : H.1.length = (t.1 35).toNat := by
    have : H.1 = dfs t := hXt.2.2.1.1.1
    rw [this]; unfold dfs; simp
  unfold pw_defun_198
  intro kp ekp _
  refine p_pathsOf hT hU n5' (by rw [e5]; exact zB) (by omega) t61 (fun v gv v71 v61 pv ev => ?_)
  rw [e5] at ev
  have hle := gv.le
  refine p_areApart gv.1 gv.2.1 pv n3.1 (by omega) (by rw [gv.ob hT n3.1 n3.2, e3]; exact nq) (fun r w gw hr => ?_)
  rw [gv.ob hT n3.1 n3.2, e3, ev, flat_pth wB' nq nnot] at hr
  have gtw : GZ f7K t w := (gv.mono f7H_K).tr (gw.mono f7F_K)
  have w64 : w.1 64 = 0 := by rw [(gw.2.2.2.2 64 (by decide)).1, (gv.2.2.2.2 64 (by decide)).1]; exact t64
  have w60 : w.1 60 = 0 := by rw [(gw.2.2.2.2 60 (by decide)).1, (gv.2.2.2.2 60 (by decide)).1]; exact t60
  have w62 : w.1 62 = 0 := by rw [(gw.2.2.2.2 62 (by decide)).1, (gv.2.2.2.2 62 (by decide)).1]; exact t62
  have w61 : w.1 61 = 0 := by rw [(gw.2.2.2.2 61 (by decide)).1]; exact v61
  have w71 : w.1 71 = 0 := by rw [(gw.2.2.2.2 71 (by decide)).1, v71]; exact t71
  refine ⟨fun hz => ?_, fun hz => hno 2 w gtw w64 w60 w62 (by decide) (Or.inl (fun z => by rw [hok.mp z] at hr; exact absurd (hr.f (Decidable.not_not.mp hz)) (by decide)))⟩
  have hfl := hr.t hz
  have hdf := hok.mpr hfl
  have hXw := hXt.keep gtw
  have bgw := bgt.keep gtw
  have hlew := gtw.le
  have eow : ∀ k, 0 ≤ k → k < t.1 8 → ob w k = ob t k := fun k k0 k1 => gtw.ob hT k0 k1
  refine p_definition hXw.1 hXw.2.1 hXw.2.2.1.1 n3.1 (by omega) (fun hdn => ?_) (fun d _ hd1 _ hds => ?_)
  rotate_left
  · rw [eow x3 n3.1 n3.2, e3] at hds
    refine ⟨fun z => by omega, fun _ => hno 3 w gtw w64 w60 w62 (by decide) (Or.inr ⟨hdf, Or.inl (by rw [hds]; rfl)⟩)⟩
  rw [eow x3 n3.1 n3.2, e3] at hdn
  refine ⟨fun _ => ?_, fun z => absurd rfl z⟩
  intro c35 ec35 _
  have w35 : w.1 35 = t.1 35 := (gtw.2.2.2.2 35 (f7K_out (by decide))).1
  rw [w35] at ec35
  refine ⟨fun hc => ?_, fun hc => hno 8 w gtw w64 w60 w62 (by decide) (Or.inr ⟨hdf, Or.inr (by omega)⟩)⟩
  have hroom : ¬ ((Sp.Env.dfn (H.env []) (Ob.item o 1)).isSome = true ∨ H.1.length = 40) := by
    rintro (z | z)
    · rw [hdn] at z; cases z
    · omega
  -- it is taken
  have take : ∀ (p : iST) (s1 : Int) (b : Bool), GZ f7K t p → p.1 64 = 0 → p.1 60 = s1 → bq (p.1 62) b → Sp.dfR H fuel (Ob.item o 1) xs B m (Sp.addDef H (Ob.item o 1, xs, B, m), s1, 0, b) → pw_defun_303 Q x3 x4 x5 x6 x7 kp p := by
    intro p s1 b gp p64 p60 p62 hdr
    have hXp := hXt.keep gp
    have bgp := bgt.keep gp
    have eop : ∀ k, 0 ≤ k → k < t.1 8 → ob p k = ob t k := fun k k0 k1 => gp.ob hT k0 k1
    have hlep := gp.le
    have hms : (if x7 ≠ 0 then some (ob p x6) else none) = m := by
      rcases hm7 with ⟨q, e⟩ | ⟨q, e, n6⟩
      · rw [if_neg (by rw [q]; decide), e]
      · rw [if_pos (by rw [q]; decide), e, eop x6 n6.1 n6.2.1]
    have p132 : p.1 132 = t.1 132 := (gp.2.2.2.2 132 (f7K_out (by decide))).1
    refine df_303 (xs := xs) hXp bgp (by rw [p132, ekp]; exact bgt.2.1) (by omega) ⟨n3.1, by omega⟩ ⟨n4.1, by omega⟩ (by rw [eop x4 n4.1 n4.2]; exact e4) ⟨n5.1, by have := n5.2.1; omega, by rw [eop x5 n5.1 n5.2.1]; exact n5.2.2.1.mono gp hT⟩ (fun q => ?_) ?_ ?_ (fun v hv v54 v64 v59 v60 v62 => ?_)
    · rcases hm7 with ⟨q', _⟩ | ⟨_, _, n6⟩
      · exact absurd q' q
      · exact ⟨n6.1, by have := n6.2.1; omega, by rw [eop x6 n6.1 n6.2.1]; exact n6.2.2.1.mono gp hT⟩
    · rw [hms, eop x3 n3.1 n3.2, e3, eop x5 n5.1 n5.2.1, e5]
      have eapp : Sp.arC (H.env []) (Ob.item o 1) (xs.length : Int) = Sp.arOf (H.1 ++ [(Ob.item o 1, xs, B, m)], H.2.1, []) := funext (fun f => arC_app (D := (Ob.item o 1, xs, B, m)) (m := []) nb hdn f)
      refine ⟨hn, hxs, ⟨by rw [← eapp]; exact wB, zB, fun x hx hv => ?_⟩, ?_⟩
      · have := List.all_eq_true.mp vB x hx
        rw [hv] at this
        exact Ob.has_iff.mp this
      · show Sp.hasCall B (Ob.item o 1) = m.isSome
        cases e : m.isSome with
        | true => exact hiff.mpr e
        | false =>
          cases e' : Sp.hasCall B (Ob.item o 1) with
          | false => rfl
          | true => rw [hiff.mp e'] at e; cases e
    · intro X hX z
      rw [eop x3 n3.1 n3.2, e3] at z
      unfold Sp.Env.dfn at hdn
      exact absurd (decide_eq_true z) (List.find?_eq_none.mp hdn X hX)
    · rw [hms, eop x3 n3.1 n3.2, e3, eop x5 n5.1 n5.2.1, e5] at hv
      have u54 : p.1 54 = u.1 54 := ((gp.2.2.2.2 54 (f7K_out (by decide))).1).trans ((g.2.2.2.2 54 (f7K_out (by decide))).1)
      refine hq 0 v (Sp.addDef H (Ob.item o 1, xs, B, m), s1, 0, b) hdf hroom hdr ⟨by rw [v64]; exact p64, ?_, by rw [v60]; exact p60, by rw [if_neg (by decide)], by rw [v62]; exact p62, [], hv, fun z => by omega⟩
      exact ⟨by rw [v59.1, (gp.2.2.2.2 59 (f7K_out (by decide))).1, (g.2.2.2.2 59 (f7K_out (by decide))).1], by rw [v59.2, (gp.2.2.2.2 12 (f7K_out (by decide))).2, (g.2.2.2.2 12 (f7K_out (by decide))).2]⟩
  -- nothing is taken
  have kept : ∀ (p : iST) (s1 : Int) (n : Nat) (ans : Int), GZ f7K t p → p.1 64 = 0 → p.1 60 = s1 → p.1 62 = 0 → (if ans = 5 ∨ ans = 6 then p.1 63 = (n : Int) else n = 0) → Sp.dfR H fuel (Ob.item o 1) xs B m (H, s1, n, false) → Q ans p := by
    intro p s1 n ans gp p64 p60 p62 p63 hdr
    have gup := g.tr gp
    exact hq ans p _ hdf hroom hdr ⟨p64, ⟨(gup.2.2.2.2 59 (f7K_out (by decide))).1, (gup.2.2.2.2 12 (f7K_out (by decide))).2⟩, p60, p63, by rw [p62]; exact bq0 rfl, [], hX.keep gup, fun _ => bg.keep gup⟩
  refine ⟨fun hz => ?_, fun hz => ?_⟩
  · rcases hm7 with ⟨q, e⟩ | ⟨q, _⟩
    · rw [e] at take
      exact take w 0 false gtw w64 w60 (by rw [w62]; exact bq0 rfl) rfl
    · omega
  obtain ⟨q7, em, n6⟩ := hm7.resolve_left (fun z => hz z.1)
  have hM6 := hM (ob t x6) (by rw [em]; rfl)
  have n6E : Nd t (H.env []) x6 := ⟨n6.1, n6.2.1, n6.2.2.1, wt_drop n6.2.2.2 (by
    cases e : Sp.hasCall (ob t x6) (Ob.item o 1) with
    | false => rfl
    | true => exact absurd e hM6.2)⟩
  intro w1 ew1
  have g1 : GZ f7K w w1 := by rw [ew1]; exact GZ_eq (GZ.rf gw.1 gw.2.1) (fun k hk => ⟨if_neg (by omega), rfl⟩) rfl (Fx_I (by decide))
  have w1n : ∀ k, k ≠ 117 → w1.1 k = w.1 k := fun k hk => by rw [ew1]; exact if_neg hk
  have w117 : w1.1 117 = 0 := by rw [ew1]; rfl
  have w1r : w1.2 = w.2 := by rw [ew1]; rfl
  clear ew1
  have gt1 := gtw.tr g1
  have eo1 : ∀ k, 0 ≤ k → k < t.1 8 → ob w1 k = ob t k := fun k k0 k1 => gt1.ob hT k0 k1
  have hle1 := gt1.le
  have pw' := pv.mono gv.1 gw ((gw.2.2.2.2 126 (by decide)).1) ((gw.2.2.2.2 123 (by decide)).2) ((gw.2.2.2.2 124 (by decide)).2) ((gw.2.2.2.2 125 (by decide)).2)
  have pw1 := pw'.1.mono gw.1 g1 (w1n 126 (by decide)) (by rw [w1r]) (by rw [w1r]) (by rw [w1r])
  have n61 := (n6E.mono hT gt1)
  have hS1 : StL w1 (fuel, 0) := by
    unfold StL
    rw [w1n 60 (by decide), w1n 59 (by decide), w60, (gtw.2.2.2.2 59 (f7K_out (by decide))).1, (g.2.2.2.2 59 (f7K_out (by decide))).1, h59]
    show (0 : Int) + (fuel : Int) = _
    omega
  have e31 : ob w1 x3 = Ob.item o 1 := by rw [eo1 x3 n3.1 n3.2]; exact e3
  have hfl' := flat_wt (E := H.env []) (n := Ob.item o 1) (B := B) (xs := xs) rfl ⟨_, fun f => congrFun ear f⟩ nq wB hfl
  have prf : ∀ (r : Sp.Res), Sp.Proves (H.env []) H (Sp.addDef H (Ob.item o 1, xs, B, m)) fuel (Sp.measAll xs (Ob.item o 1) (ob t x6) (Sp.paths B)) r → Sp.dfR H fuel (Ob.item o 1) xs B m r := by
    intro r hr
    rw [em] at hr ⊢
    exact hr
  have steps : ∀ (p : iST) (s : Sp.Wk), GZ f7K t p → StL p s → p.1 60 = (fuel : Int) - (s.1 : Int) := by
    intro p s gp hs
    unfold StL at hs
    rw [(gp.2.2.2.2 59 (f7K_out (by decide))).1, (g.2.2.2.2 59 (f7K_out (by decide))).1, h59] at hs
    omega
  refine p_measureRows (E := H.env []) (xs := xs) (B := B) g1.1 g1.2.1 pw1.1 (by rw [pw1.2, pw'.2]; exact ev) wB' zB n3.1 (by omega) (by rw [e31]; exact nq) n4.1 (by omega) (by rw [eo1 x4 n4.1 n4.2]; exact e4) n61.1 (fun x hx => ?_) (by rw [e31]; exact hfl') (by rw [w1n 71 (by decide)]; omega) (by rw [w1n 61 (by decide)]; exact w61) hS1 w117 (fun p cl s' hok' gp p71 p61 pS pR => ?_) (fun p s' hbad' gp p61 pS => ?_)
  · rw [n61.2] at hx
    have := List.all_eq_true.mp hM6.1 x hx.1
    rw [hx.2] at this
    exact Ob.has_iff.mp this
  · rw [e31, n61.2] at hok'
    have gtp := gt1.tr (gp.mono f7G_K)
    have p64 : p.1 64 = 0 := by rw [(gp.2.2.2.2 64 (by decide)).1, w1n 64 (by decide)]; exact w64
    intro v36 ev36 _
    refine ⟨fun z => absurd (ev36.trans p61) z, fun _ => ?_⟩
    have hXp := hXt.keep gtp
    refine p_prove (E := H.env []) gp.1 gp.2.1 hXp.2.2.1 (by rw [p71, w1n 71 (by decide)]; omega) p64 p61 pR.1 (fun id i0 i1 => pR.2.1 id i0 i1) pS (fun z s2 r hend gz z71 z64 z61 zS z62 hr z63 zC z109 => ?_) (fun z s2 hend gz z64 z61 zS z62 => ?_)
    · rw [pR.2.2] at hend
      have gtz := gtp.tr (gz.mono f7Y_K)
      have zst := steps z s2 gtz zS
      refine ⟨fun hz0 => ?_, fun hz0 => ?_⟩
      · have h63 : z.1 63 ≠ 0 := fun q => by rw [if_pos q] at hr; omega
        unfold pw_defun_280 pw_defun_281
        intro y ey _
        refine ⟨fun _ => ⟨fun q => absurd rfl q, fun _ => ?_⟩, fun q => absurd (ey.trans z61) q⟩
        refine p_tellLeft (E := H.env []) gz.1 gz.2.1 z64 z63 (fun i i0 i1 => (zC i i0 i1).2.2) (fun q gq q64 q60 q63 q62 => ?_)
        have hl : (lfL z).length = (z.1 63).toNat := by unfold lfL; simp
        refine kept q ((fuel : Int) - (s2.1 : Int)) (lfL z).length 5 (gtz.tr gq) q64 (by rw [q60]; exact zst) (by rw [q62, z62]; exact hz0) (by rw [if_pos (Or.inl rfl), q63, hl]; omega) (prf _ ?_)
        unfold Sp.Proves
        rw [hok']
        refine ⟨some (lfL z), s2, hend, ?_⟩
        cases el : lfL z with
        | nil => rw [el] at hl; simp at hl; omega
        | cons a l => rfl
      · have h63 : z.1 63 = 0 := by
          by_cases q : z.1 63 = 0
          · exact q
          · rw [if_neg q] at hr; exact absurd hr hz0
        unfold pw_defun_281
        intro y ey _
        refine ⟨fun _ => ⟨fun _ => ?_, fun q => absurd (by decide) q⟩, fun q => absurd (ey.trans z61) q⟩
        refine take z ((fuel : Int) - (s2.1 : Int)) true gtz z64 zst (by rw [z62]; exact ⟨fun q => absurd q hz0, fun q => by cases q⟩) (prf _ ?_)
        unfold Sp.Proves
        rw [hok']
        refine ⟨some (lfL z), s2, hend, ?_⟩
        have : lfL z = [] := by unfold lfL; rw [h63]; rfl
        rw [this]
    · rw [pR.2.2] at hend
      have gtz := gtp.tr (gz.mono f7Y_K)
      refine ⟨fun _ => ?_, fun q => absurd rfl q⟩
      unfold pw_defun_280 pw_defun_281
      intro y ey _
      refine ⟨fun q => absurd (ey.symm.trans q) z61, fun _ => ?_⟩
      refine kept z ((fuel : Int) - (s2.1 : Int)) 0 4 gtz z64 (steps z s2 gtz zS) z62 (by rw [if_neg (by decide)]) (prf _ ?_)
      unfold Sp.Proves
      rw [hok']
      exact ⟨none, s2, hend, rfl⟩
  · rw [e31, n61.2] at hbad'
    have gtp := gt1.tr (gp.mono f7G_K)
    have p64 : p.1 64 = 0 := by rw [(gp.2.2.2.2 64 (by decide)).1, w1n 64 (by decide)]; exact w64
    intro v36 ev36 _
    refine ⟨fun _ => ?_, fun z => absurd (fun q => p61 (ev36.symm.trans q)) z⟩
    unfold pw_defun_280 pw_defun_281
    intro y ey _
    refine ⟨fun q => absurd (ey.symm.trans q) p61, fun _ => ?_⟩
    refine kept p ((fuel : Int) - (s'.1 : Int)) 0 4 gtp p64 (steps p s' gtp pS) ?_ (by rw [if_neg (by decide)]) (prf _ ?_)
    · rw [(gp.2.2.2.2 62 (by decide)).1, w1n 62 (by decide)]; exact w62
    · unfold Sp.Proves
      rw [hbad']
