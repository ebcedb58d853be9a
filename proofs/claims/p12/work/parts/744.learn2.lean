-- deps: 743
/-! the class: the rule of a theorem is learnt -/
theorem iAc_at [DecidableEq Ob] (u : iST) (k : Nat) (i x : Int) : (iA u k i x).2.1 k i = x := by
  show (if k = k then (fun j => if j = i then x else u.2.1 k j) else u.2.1 k) i = x
  rw [if_pos rfl]
  exact if_pos rfl
theorem iAc_ne [DecidableEq Ob] (u : iST) {k m : Nat} (i x : Int) (h : m ≠ k) : (iA u k i x).2.1 m = u.2.1 m := if_neg h
def RuC [DecidableEq Ob] (v : iST) (E : Sp.Env) (r : Int) (R : Option Sp.Rul) : Prop := rulC v r = R ∧ (v.2.1 7 r ≠ -1 → NdC v E (v.2.1 7 r) ∧ (oc v (v.2.1 7 r)).isCall = true ∧ NdC v E (v.2.1 8 r) ∧ (0 ≤ v.2.1 9 r ∧ v.2.1 9 r ≤ 60) ∧ (∀ x, vr false (oc v (v.2.1 8 r)) x → vr false (oc v (v.2.1 7 r)) x) ∧ ∀ i, 0 ≤ i → i < v.2.1 9 r → NdC v E (v.2.1 50 (60 * r + i)) ∧ ∀ x, vr false (oc v (v.2.1 50 (60 * r + i))) x → vr false (oc v (v.2.1 7 r)) x)
theorem HyC.up [DecidableEq Ob] {n m : Nat → Bool} {u v : iST} {E : Sp.Env} {r : Int} (h : HyC u E r) (hT : CT u) (g : CG n m u v) (h9 : v.2.1 9 r = u.2.1 9 r) (h50 : v.2.1 50 = u.2.1 50) : HyC v E r := ⟨by rw [h9]; exact h.1, fun i i0 i1 => by rw [h9] at i1; rw [h50]; exact ((h.2 i i0 i1).up hT g).1⟩
theorem hypC_up [DecidableEq Ob] {n m : Nat → Bool} {u v : iST} {E : Sp.Env} {r : Int} (h : HyC u E r) (hT : CT u) (g : CG n m u v) (h9 : v.2.1 9 r = u.2.1 9 r) (h50 : v.2.1 50 = u.2.1 50) : hypC v r = hypC u r := by
  unfold hypC
  rw [h9, h50]
  refine List.map_congr_left (fun i hi => ?_)
  have hi := List.mem_range.mp hi
  exact ((h.2 (i : Int) (by omega) (by omega)).up hT g).2
/-- the same, of what is left of the nodes -/
def LnW [DecidableEq Ob] (r : Int) (u v : iST) : Prop := CG f8b f8V u v ∧ (∀ k, 7 ≤ k → k ≤ 12 → ∀ j, j ≠ r → v.2.1 k j = u.2.1 k j) ∧ ∀ i, i < 60 * r → v.2.1 50 i = u.2.1 50 i
theorem LnK.w [DecidableEq Ob] {r : Int} {u v : iST} (h : LnK r u v) : LnW r u v := ⟨h.1, h.2.2.1, h.2.2.2⟩
theorem LnW.tr [DecidableEq Ob] {r : Int} {u v w : iST} (h : LnW r u v) (g : LnW r v w) : LnW r u w := ⟨h.1.tr g.1, fun k a b j hj => (g.2.1 k a b j hj).trans (h.2.1 k a b j hj), fun i hi => (g.2.2 i hi).trans (h.2.2 i hi)⟩
theorem LnW.of [DecidableEq Ob] {r : Int} {u v : iST} (g : CG f8b f8m u v) : LnW r u v := ⟨g.mono (fun _ h => h) f8m_V, fun k a b j _ => by rw [g.2.2.2 k (by unfold f8m; simp only [Bool.or_eq_false_iff, decide_eq_false_iff_not]; omega)], fun i _ => by rw [g.2.2.2 50 (by decide)]⟩
theorem ln_194 [DecidableEq Ob] {r l o y2 : Int} {Q : iST → Prop} {u : iST} {E : Sp.Env} {e n : Bool} (hT : CT u) (nl : NdC u E l) (no : NdC u E o) (hH : HyC u E r) (h7 : u.2.1 7 r = -1) (h2 : bq y2 (!e && !n && !(oc u l).isBool)) (hq : ∀ v, LnW r u v → RuC v E r (Sp.ruleAt (hypC u r) e n (oc u l) (oc u o)) → Q v) : pv_6_learn_194 Q r l o r y2 u := by
  unfold pv_6_learn_194
  intro _ _ _ y1 e1
  have k1 : LnK r u y1 := by rw [e1]; exact LnK_A hT (by decide) (by decide)
  have r1 : ∀ k, k ≠ 10 → y1.2.1 k = u.2.1 k := fun k hk => by rw [e1]; exact if_neg hk
  have y10 : y1.2.1 10 r = y2 := by rw [e1]; exact iAc_at _ _ _ _
  obtain ⟨nl1, el1⟩ := nl.up hT k1.1
  obtain ⟨no1, eo1⟩ := no.up hT k1.1
  have hH1 := hH.up hT k1.1 (by rw [r1 9 (by decide)]) (r1 50 (by decide))
  have eh1 : hypC y1 r = hypC u r := hypC_same (by rw [r1 9 (by decide)]) (r1 50 (by decide)) k1.2.1
  refine pc_isRule k1.1.1 nl1 no1 hH1 (fun q w gw cw hb => ?_)
  rw [el1, eo1, eh1] at hb
  have kw : LnK r u w := k1.tr (LnK.of gw cw)
  have wr : ∀ k, k ≠ 10 → f8m k = false → w.2.1 k = u.2.1 k := fun k h1 h2 => by rw [gw.2.2.2 k h2, r1 k h1]
  have hRA : Sp.ruleAt (hypC u r) e n (oc u l) (oc u o) = if guardR (oc u l) (oc u o) (hypC u r) = true then some (oc u l, oc u o, hypC u r, !e && !n && !Ob.isBool (oc u l), Sp.turns (oc u l) (oc u o), true) else none := rfl
  refine ⟨fun z => hq w kw.w ?_, fun z => ?_⟩
  · have w7 : w.2.1 7 r = -1 := by rw [wr 7 (by decide) (by decide)]; exact h7
    rw [hRA, hb.f z, if_neg (by decide)]
    exact ⟨by unfold rulC; rw [if_pos w7], fun q2 => absurd w7 q2⟩
  have hg := hb.t z
  rw [hRA, if_pos hg] at hq
  intro _ _ y3 e3 _ _ y4 e4
  have k3 : LnK r w y3 := by rw [e3]; exact LnK_A gw.1 (by decide) (by decide)
  have k4 : LnK r y3 y4 := by rw [e4]; exact LnK_A k3.1.1 (by decide) (by decide)
  have k14 : LnK r u y4 := (kw.tr k3).tr k4
  have y47 : y4.2.1 7 r = l := by rw [e4, iAc_ne _ _ _ (by decide), e3]; exact iAc_at _ _ _ _
  have y48 : y4.2.1 8 r = o := by rw [e4]; exact iAc_at _ _ _ _
  have y4r : ∀ k, k ≠ 7 → k ≠ 8 → y4.2.1 k = w.2.1 k := fun k h1 h2 => by rw [e4, e3]; exact (if_neg h2).trans (if_neg h1)
  obtain ⟨nl4, el4⟩ := nl.up hT k14.1
  obtain ⟨no4, eo4⟩ := no.up hT k14.1
  -- the end
  have fin : ∀ (z5 : iST) (y : Int), CG f8b f8m y4 z5 → bq y (Sp.turns (oc u l) (oc u o)) → pv_6_learn_266 Q r r y z5 := by
    intro z5 y g5 hy
    unfold pv_6_learn_266
    intro _ _ _ z6 e6 _ _ _ z7 e7
    have k5 : LnW r y4 z5 := LnW.of g5
    have k6 : LnK r z5 z6 := by rw [e6]; exact LnK_A g5.1 (by decide) (by decide)
    have k7 : LnK r z6 z7 := by rw [e7]; exact LnK_A k6.1.1 (by decide) (by decide)
    have k : LnW r u z7 := ((k14.w.tr k5).tr k6.w).tr k7.w
    have zr : ∀ k, k ≠ 11 → k ≠ 12 → f8m k = false → z7.2.1 k = y4.2.1 k := fun k h1 h2 h3 => by rw [e7, e6]; exact ((if_neg h2).trans (if_neg h1)).trans (g5.2.2.2 k h3)
    have z12 : z7.2.1 12 r = 1 := by rw [e7]; exact iAc_at _ _ _ _
    have z11 : z7.2.1 11 r = y := by rw [e7, iAc_ne _ _ _ (by decide), e6]; exact iAc_at _ _ _ _
    have z10 : z7.2.1 10 r = y2 := by rw [zr 10 (by decide) (by decide) (by decide), y4r 10 (by decide) (by decide), gw.2.2.2 10 (by decide)]; exact y10
    have z7' : z7.2.1 7 r = l := by rw [zr 7 (by decide) (by decide) (by decide)]; exact y47
    have z8 : z7.2.1 8 r = o := by rw [zr 8 (by decide) (by decide) (by decide)]; exact y48
    have z9 : z7.2.1 9 = u.2.1 9 := by rw [zr 9 (by decide) (by decide) (by decide), y4r 9 (by decide) (by decide), wr 9 (by decide) (by decide)]
    have z50 : z7.2.1 50 = u.2.1 50 := by rw [zr 50 (by decide) (by decide) (by decide), y4r 50 (by decide) (by decide), wr 50 (by decide) (by decide)]
    obtain ⟨nlz, elz⟩ := nl.up hT k.1
    obtain ⟨noz, eoz⟩ := no.up hT k.1
    have hHz := hH.up hT k.1 (by rw [z9]) z50
    have ehz : hypC z7 r = hypC u r := hypC_up hH hT k.1 (by rw [z9]) z50
    have l0 := nl.1.1
    unfold guardR at hg
    rw [Bool.and_eq_true, Bool.and_eq_true, Bool.and_eq_true, Bool.and_eq_true, Bool.and_eq_true, Bool.and_eq_true] at hg
    obtain ⟨⟨⟨⟨⟨⟨g1, _⟩, _⟩, _⟩, _⟩, g6⟩, g7⟩ := hg
    have dec : ∀ {q : Int} {b : Bool}, bq q b → decide (q ≠ 0) = b := fun {q b} hq => by
      cases b with
      | true => exact decide_eq_true (fun z => by have := hq.f z; cases this)
      | false => exact decide_eq_false (fun z => by have := hq.t z; cases this)
    refine hq z7 k ⟨?_, fun _ => ?_⟩
    · unfold rulC
      rw [if_neg (by rw [z7']; omega), z7', z8, elz, eoz, ehz, z10, z11, z12, dec h2, dec hy]
      rfl
    · rw [z7', z8, elz, eoz]
      refine ⟨nlz, g1, noz, hHz.1, covers_vr g6, fun i i0 i1 => ⟨hHz.2 i i0 i1, ?_⟩⟩
      rw [z9] at i1
      have hget := hypC_get (w := z7) (r := r) (i := i.toNat) (by rw [z9]; omega)
      rw [Int.toNat_of_nonneg i0, ehz] at hget
      have hm := List.mem_of_getElem? hget
      exact covers_vr (List.all_eq_true.mp g7 _ hm)
  refine pc_matchesD k14.1.1 nl4 no4 (fun z5 g5 hno => ⟨fun _ => ?_, fun q => absurd rfl q⟩) (fun z5 g5 b5 kd5 hv5 hag5 hbd5 => ⟨(fun q => by cases q), fun _ => ?_⟩)
  · unfold pv_6_learn_265
    rw [el4, eo4] at hno
    refine fin z5 0 g5 ⟨fun _ => bf_of (fun q => ?_), fun _ => rfl⟩
    obtain ⟨s, _, hs⟩ := (turns_iff nl.2.1 no.2.1).mp q
    exact hno s hs
  · rw [el4, eo4] at hag5
    rw [el4] at hbd5
    have htu := turns_bd nl.2.1 no.2.1 g5.1 b5 kd5 hag5 hbd5
    refine pc_isBoundToVariables g5.1 b5 (fun r9 hr9 => ?_)
    have hb9 : bq r9 (Sp.turns (oc u l) (oc u o)) := bq_of (hr9.trans htu.symm)
    refine ⟨fun z9 => ?_, fun z9 => ?_⟩
    · unfold pv_6_learn_265
      exact fin z5 0 g5 ⟨fun _ => hb9.f z9, fun _ => rfl⟩
    · exact fin z5 1 g5 ⟨(fun q => by cases q), fun q => by rw [hb9.t z9] at q; cases q⟩

theorem pc_learn [DecidableEq Ob] {r : Int} {Q : iST → Prop} {u : iST} {E : Sp.Env} (hT : CT u) (h1 : u.1 1 = r + 1) (r0 : 0 ≤ r) (nF : NdC u E (u.2.1 6 r)) (h7 : u.2.1 7 r = -1) (hq : ∀ v, LnW r u v → RuC v E r (Sp.ruleOf (oc u (u.2.1 6 r))) → Q v) : pv_6_learn Q u := by
  unfold pv_6_learn
  intro n1 en1 _ _
  rw [en1, h1, show r + 1 - 1 = r by omega]
  refine ⟨fun _ => ?_, fun z => absurd r0 z⟩
  intro _ _ n3 en3 _ _ _ y0 e0
  rw [en3]
  have k0 : LnK r u y0 := by rw [e0]; exact LnK_A hT (by decide) (by decide)
  have r1 : ∀ k, k ≠ 9 → y0.2.1 k = u.2.1 k := fun k hk => by rw [e0]; exact if_neg hk
  have y9 : y0.2.1 9 r = 0 := by rw [e0]; exact iAc_at _ _ _ _
  obtain ⟨nF0, eF0⟩ := nF.up hT k0.1
  have hnil : hypC y0 r = [] := by unfold hypC; rw [y9]; rfl
  refine pv_6_learn_37_i (fun x1 x2 x3 y => x1 = r ∧ 0 ≤ x3 ∧ LnK r u y ∧ y.2.1 7 r = -1 ∧ NdC y E x2 ∧ HyC y E r ∧ Sp.ruleGo (oc u (u.2.1 6 r)) [] = Sp.ruleGo (oc y x2) (hypC y r) ∧ 2 * y.2.1 9 r + (oc y x2).sz ≤ 120 ∧ x3 + (oc y x2).sz ≤ 120) ?_ ⟨rfl, Int.le_refl _, k0, by rw [r1 7 (by decide)]; exact h7, nF0, ⟨by rw [y9]; decide, fun i i0 i1 => by rw [y9] at i1; omega⟩, by rw [eF0, hnil], by rw [y9, eF0]; have := nF.2.2; omega, by rw [eF0]; have := nF.2.2; omega⟩
  rintro x1 x2 x3 y ⟨b1, i0, ky, y7, n2, hHy, hgo, hm, ht⟩
  rw [b1]
  have hTy := ky.1.1
  have psz := Ob.sz_pos (oc y x2)
  -- no more hypotheses
  have fin : (oc y x2).isCallOf Ob.implies = false → pv_6_learn_86 Q r x2 y := by
    intro hno
    rw [ruleGo_no _ hno] at hgo
    have hR : Sp.ruleOf (oc u (u.2.1 6 r)) = Sp.ruleOn (hypC y r) (oc y x2) := by unfold Sp.ruleOf; rw [hgo]
    unfold Sp.ruleOn at hR
    rw [hR] at hq
    obtain ⟨n0', e0'⟩ := NdC.known hTy E 0 (o := Ob.nil) (by decide) (by decide) rfl rfl
    obtain ⟨n1', e1'⟩ := NdC.known hTy E 1 (o := Ob.t) (by decide) (by decide) rfl rfl
    unfold pv_6_learn_86
    refine pc_isCallK 4 hTy n2.1 (by decide) (by decide) (o := Ob.equal) rfl (fun r4 hr4 => pc_isCallK 16 hTy n2.1 (by decide) (by decide) (o := Ob.not) rfl (fun r5 hr5 => ?_))
    -- left and right are there
    have e158 : ∀ l o, NdC y E l → NdC y E o → oc y l = (if Ob.isCallOf (oc y x2) Ob.equal || Ob.isCallOf (oc y x2) Ob.not then Ob.item (oc y x2) 1 else oc y x2) → oc y o = (if Ob.isCallOf (oc y x2) Ob.equal then Ob.item (oc y x2) 2 else if Ob.isCallOf (oc y x2) Ob.not then Ob.nil else Ob.t) → pv_6_learn_158 Q r r4 r5 l o y := by
      intro l o nl no el eo
      rw [← el, ← eo] at hq
      have e194 : ∀ y2, bq y2 (!Ob.isCallOf (oc y x2) Ob.equal && !Ob.isCallOf (oc y x2) Ob.not && !(oc y l).isBool) → pv_6_learn_194 Q r l o r y2 y := fun y2 hy2 => ln_194 hTy nl no hHy y7 hy2 (fun v kv hv => hq v (ky.w.tr kv) hv)
      unfold pv_6_learn_158 pv_6_learn_193
      refine ⟨fun z4 => e194 0 ⟨fun _ => by rw [hr4.t z4]; rfl, fun _ => rfl⟩, fun z4 => ⟨fun z5 => e194 0 ⟨fun _ => by rw [hr5.t z5]; simp, fun _ => rfl⟩, fun z5 => ?_⟩⟩
      refine pc_isBoolean hTy nl.1 (fun r6 hr6 => ⟨fun z6 => e194 0 ⟨fun _ => by rw [hr6.t z6]; simp, fun _ => rfl⟩, fun z6 => e194 1 ⟨(fun q => by cases q), fun q => ?_⟩⟩)
      rw [hr4.f (Decidable.not_not.mp z4), hr5.f (Decidable.not_not.mp z5), hr6.f (Decidable.not_not.mp z6)] at q
      cases q
    have e130 : ∀ l, NdC y E l → oc y l = (if Ob.isCallOf (oc y x2) Ob.equal || Ob.isCallOf (oc y x2) Ob.not then Ob.item (oc y x2) 1 else oc y x2) → pv_6_learn_130 Q r x2 r4 r5 l y := by
      intro l nl el
      unfold pv_6_learn_130
      refine ⟨fun z4 => ⟨fun z5 => e158 l 1 nl n1' el ?_, fun z5 => e158 l 0 nl n0' el ?_⟩, fun z4 => ?_⟩
      · rw [hr4.f z4, hr5.f z5]; exact e1'
      · rw [hr4.f z4, hr5.t z5]; exact e0'
      · have he := hr4.t z4
        refine pc_it hTy n2 he (Ob.sym_ne (by decide)) (arOf_equal E) (by decide) (by decide) (fun o no eo => e158 l o nl no el ?_)
        rw [he, if_pos rfl]; exact eo
    refine ⟨fun z4 => ?_, fun z4 => ⟨fun z5 => ?_, fun z5 => ?_⟩⟩
    · have he := hr4.t z4
      unfold pv_6_learn_117
      refine pc_it hTy n2 he (Ob.sym_ne (by decide)) (arOf_equal E) (by decide) (by decide) (fun l nl el => e130 l nl ?_)
      rw [he]; exact el
    · refine e130 x2 n2 ?_
      rw [hr4.f (Decidable.not_not.mp z4), hr5.f z5]; rfl
    · have hn := hr5.t z5
      unfold pv_6_learn_117
      refine pc_it hTy n2 hn (Ob.sym_ne (by decide)) (arOf_not E) (by decide) (by decide) (fun l nl el => e130 l nl ?_)
      rw [hn, Bool.or_true]; exact el
  unfold pv_6_learn_37b
  refine ⟨fun z => by omega, fun _ => ?_⟩
  refine pc_isCallK 6 hTy n2.1 (by decide) (by decide) (o := Ob.implies) rfl (fun r4 hr4 => ⟨fun z4 => fin (hr4.f z4), fun z4 => ?_⟩)
  have hi := hr4.t z4
  have qi : Ob.implies ≠ Ob.quote := Ob.sym_ne (by decide)
  obtain ⟨a, b, eo, wa, wb⟩ := Ob.wt_two n2.2.1 hi qi (arOf_implies E)
  have es : (oc y x2).sz = 1 + (a.sz + (b.sz + 0)) := by rw [eo]; exact if_neg qi
  have pa := Ob.sz_pos a
  have pb := Ob.sz_pos b
  refine pc_it hTy n2 hi qi (arOf_implies E) (by decide) (by decide) (fun h nh eh => ?_)
  have eh : oc y h = a := by rw [eh, eo]; rfl
  have h9 := hHy.1.1
  refine pc_addHypotheses hTy nh hHy (by rw [eh]; omega) (fun w kw wn wr hHw ehw => ?_)
  obtain ⟨n2w, e2w⟩ := n2.up hTy kw.1
  refine pc_it kw.1.1 n2w (by rw [e2w]; exact hi) qi (arOf_implies E) (by decide) (by decide) (fun q nq eq => ?_)
  have eq : oc w q = b := by rw [eq, e2w, eo]; rfl
  intro _
  have hl9 : w.2.1 9 r = y.2.1 9 r + ((Sp.hypIn a).length : Int) := by
    have := congrArg List.length ehw
    rw [List.length_append, hypC_len, hypC_len, eh] at this
    have := hHw.1.1
    omega
  have hil := hypIn_len (E := E) 120 a (by omega) wa
  refine ⟨rfl, by omega, ky.tr kw, by rw [wr 7 (by decide) (by decide) (by decide)]; exact y7, nq, hHw, ?_, by rw [hl9, eq]; omega, by rw [eq]; omega⟩
  rw [hgo, eo, ruleGo_imp, ehw, eh, eq]
