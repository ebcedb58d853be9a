-- deps: 713
/-! the class: matching, the loop -/
/-- the items of a row are terms -/
theorem row_nd [DecidableEq Ob] {u : iST} {E : Sp.Env} {k l t : Int} (hT : CT u) (hk : VN u k) (hp : (oc u k).isPr = true) (hw : Ob.wtM (Sp.arOf E) true (oc u k)) (hs : Ob.szM true (oc u k) ≤ 120) (hl : VN u l) (el : oc u l = (oc u k).lft) (ht : VN u t) (et : oc u t = (oc u k).rgt) : NdC u E l ∧ Ob.wtM (Sp.arOf E) true (oc u t) ∧ Ob.szM true (oc u k) = (oc u l).sz + Ob.szM true (oc u t) ∧ oc u k = .pr (oc u l) (oc u t) := by
  obtain ⟨vl, vr, _, _, es⟩ := oc_sides hT hk ((oc_isPr hT hk).mp hp)
  have e : oc u k = .pr (oc u l) (oc u t) := by rw [el, et, es]; rfl
  have hsz : Ob.szM true (oc u k) = (oc u l).sz + Ob.szM true (oc u t) := by rw [e]; rfl
  have hw' : Ob.wtM (Sp.arOf E) false (oc u l) ∧ Ob.wtM (Sp.arOf E) true (oc u t) := by rw [e] at hw; exact hw
  have p := (Ob.szM_pos true (oc u t)).1
  exact ⟨⟨hl, hw'.1, by omega⟩, hw'.2, hsz, e⟩
theorem pc_matchesD [DecidableEq Ob] {a b : Int} {Q : Int → iST → Prop} {u : iST} {E : Sp.Env} (hT : CT u) (na : NdC u E a) (nb : NdC u E b)
    (h0 : ∀ v, CG f8b f8m u v → (∀ s, Ob.sbM s false (oc u a) ≠ oc u b) → Q 0 v)
    (h1 : ∀ v, CG f8b f8m u v → BnOk v → KyD v → (∀ i, 0 ≤ i → i < v.1 39 → (oc v (v.2.1 35 i)).isVar = true ∧ NdC v E (v.2.1 36 i)) → (∀ s, Ob.sbM s false (oc u a) = oc u b ↔ Ag s (bdL v)) → (∀ x, vr false (oc u a) x → (Ob.lk (bdL v) x).isSome = true) → Q 1 v) : pv_10_matches a b Q u := by
  unfold pv_10_matches
  intro y1 e1 _ _ y2 e2 _ _ y3 e3
  have g1 : CG f8b f8m u y1 := by rw [e1]; exact CG_I hT (by decide) (by decide)
  have g2 : CG f8b f8m y1 y2 := by rw [e2]; exact CG_A g1.1 (by decide) (by decide)
  have g3 : CG f8b f8m y2 y3 := by rw [e3]; exact CG_A g2.1 (by decide) (by decide)
  have g := (g1.tr g2).tr g3
  have n39 : y3.1 39 = 0 := by rw [e3, e2, e1]; rfl
  have r41 : y3.2.1 41 0 = a := by rw [e3, e2]; rfl
  have r42 : y3.2.1 42 0 = b := by rw [e3]; rfl
  obtain ⟨na3, ea3⟩ := na.up hT g
  obtain ⟨nb3, eb3⟩ := nb.up hT g
  have bd0 : bdL y3 = [] := by unfold bdL; rw [n39]; rfl
  refine pv_10_matches_24_i (fun x3 x4 y => MtC u E (oc u a) (oc u b) y x3 x4 (fun _ => True) (fun _ => False) 0) ?_ ⟨g, ⟨by decide, by decide, by omega, ?_⟩, ⟨⟨⟨by omega, by omega, fun i i0 i1 => by omega⟩, fun i j i0 i1 i2 => by omega⟩, fun i i0 i1 => by omega⟩, fun i i0 i1 => ?_, fun s => ?_, fun x hx => Or.inr (Or.inl ⟨0, by decide, by decide, by rw [r41, ea3]; exact hx⟩)⟩
  rotate_left
  · show 0 + (0 + (oc y3 (y3.2.1 41 0)).sz) + 0 ≤ 120
    rw [r41, ea3]
    have := na.2.2
    omega
  · rw [show i = 0 by omega, r41, r42]; exact ⟨na3, nb3⟩
  · rw [bd0]
    constructor
    · intro h
      refine ⟨(fun x y e => by cases e), fun i i0 i1 => ?_, trivial⟩
      rw [show i = 0 by omega, r41, r42, ea3, eb3]; exact h
    · rintro ⟨_, h, _⟩
      have := h 0 (by decide) (by decide)
      rw [r41, r42, ea3, eb3] at this; exact this
  intro x3 x4 y hI
  obtain ⟨gy, ⟨c1, c2, c3, c4⟩, ⟨⟨hB, hBd⟩, hBv⟩, hN, hS, hV⟩ := hI
  have hTy := gy.1
  have wge := wsm_ge y x3.toNat
  unfold pv_10_matches_24b
  have fin : x3 ≤ 0 → ztp 1 (Q 1 y) := by
    intro z _
    refine h1 y gy hB hBd hBv (fun s => ?_) (fun x hx => ?_)
    · rw [hS s]
      exact ⟨fun q => q.1, fun q => ⟨q, fun i i0 i1 => by omega, trivial⟩⟩
    · rcases hV x hx with q | ⟨i, i0, i1, _⟩ | q
      · exact q
      · omega
      · cases q
  refine ⟨fun z => by omega, fun _ => ⟨fun z => fin z, fun hpos => ?_⟩⟩
  intro _ _ _ p ep _ _ _ q eq _
  obtain ⟨np, nq⟩ := hN (x3 + -1) (by omega) (by omega)
  rw [← ep] at np
  rw [← eq] at nq
  have wS : wsm y x3.toNat = wsm y (x3 + -1).toNat + (oc y p).sz := by
    rw [show x3.toNat = (x3 + -1).toNat + 1 by omega]
    show wsm y (x3 + -1).toNat + (oc y (y.2.1 41 (((x3 + -1).toNat : Nat) : Int))).sz = _
    rw [show (((x3 + -1).toNat : Nat) : Int) = x3 + -1 by omega, ← ep]
  have psz := Ob.sz_pos (oc y p)
  have split : ∀ s, PnA s y x3 ↔ PnA s y (x3 + -1) ∧ Ob.sbM s false (oc y p) = oc y q := fun s => by
    constructor
    · intro h
      refine ⟨fun i i0 i1 => h i i0 (by omega), ?_⟩
      have := h (x3 + -1) (by omega) (by omega)
      rw [← ep, ← eq] at this; exact this
    · rintro ⟨h, h2⟩ i i0 i1
      by_cases z : i = x3 + -1
      · rw [z, ← ep, ← eq]; exact h2
      · exact h i i0 (by omega)
  have vsplit : ∀ x, vr false (oc u a) x → (Ob.lk (bdL y) x).isSome = true ∨ (∃ i, 0 ≤ i ∧ i < x3 + -1 ∧ vr false (oc y (y.2.1 41 i)) x) ∨ vr false (oc y p) x := fun x hx => by
    rcases hV x hx with z | ⟨i, i0, i1, z⟩ | z
    · exact Or.inl z
    · by_cases zi : i = x3 + -1
      · rw [zi, ← ep] at z; exact Or.inr (Or.inr z)
      · exact Or.inr (Or.inl ⟨i, i0, by omega, z⟩)
    · cases z
  have fail : (∀ s, Ag s (bdL y) → Ob.sbM s false (oc y p) ≠ oc y q) → ztp 0 (Q 0 y) := fun h _ => h0 y gy (fun s z => by
    obtain ⟨z1, z2, _⟩ := (hS s).mp z
    exact h s z1 ((split s).mp z2).2)
  -- nothing more to be said of it
  have skip : (∀ s, Ag s (bdL y) → Ob.sbM s false (oc y p) = oc y q) → (∀ x, vr false (oc y p) x → (Ob.lk (bdL y) x).isSome = true) → MtC u E (oc u a) (oc u b) y (x3 + -1) (x4 + 1) (fun _ => True) (fun _ => False) 0 := fun h hv => by
    refine ⟨gy, ⟨by omega, by omega, by omega, by omega⟩, ⟨⟨hB, hBd⟩, hBv⟩, fun i i0 i1 => hN i i0 (by omega), fun s => ?_, fun x hx => ?_⟩
    · rw [hS s, split s]
      exact ⟨fun z => ⟨z.1, z.2.1.1, trivial⟩, fun z => ⟨z.1, ⟨z.2.1, h s z.1⟩, trivial⟩⟩
    · rcases vsplit x hx with z | z | z
      · exact Or.inl z
      · exact Or.inr (Or.inl z)
      · exact Or.inl (hv x z)
  refine pc_isVariable hTy np.1 (fun r1 hr1 => ⟨fun z1 => ?_, fun z1 => ?_⟩)
  · have nv := hr1.f z1
    refine pc_isCall hTy np.1 (fun r2 hr2 => ⟨fun z2 => ?_, fun z2 => ?_⟩)
    · -- a call
      have hc := hr2.t z2
      have hpp := oc_callPr hTy np.1 hc
      obtain ⟨vl, vr', _, _, es⟩ := oc_sides hTy np.1 ((oc_isPr hTy np.1).mp hpp)
      refine pc_left hTy np.1 (fun l hl el => ?_)
      have el' : oc y l = oc y (cL (y.2.2 p)) := by rw [el, es]; rfl
      have nq' : oc y l ≠ Ob.quote := by
        rw [es] at hc
        rw [el']
        exact of_decide_eq_true hc
      refine pc_isCallOf hTy nq.1 hl (fun r3 hr3 => ⟨fun z3 => ?_, fun z3 => fail (fun s _ z => ?_)⟩)
      rotate_left
      · have hf := hr3.f (Decidable.not_not.mp z3)
        rw [← z, es, show Ob.sbM s false (.pr (oc y (cL (y.2.2 p))) (oc y (cR (y.2.2 p)))) = _ from sb_pr s _ _, ← el', if_neg nq'] at hf
        have hf : decide (oc y l = oc y l) = false := hf
        rw [decide_eq_true rfl] at hf; cases hf
      have hcq := hr3.t z3
      have hqp : (oc y q).isPr = true := by
        cases e : oc y q with
        | var x => rw [e] at hcq; cases hcq
        | op x z => rfl
      obtain ⟨wl, wr, _, _, eqs⟩ := oc_sides hTy nq.1 ((oc_isPr hTy nq.1).mp hqp)
      have elq : oc y (cL (y.2.2 q)) = oc y l := by
        rw [eqs] at hcq
        exact of_decide_eq_true hcq
      refine pc_right hTy nq.1 (fun tq htq etq => pc_right hTy np.1 (fun tp htp etp => ?_))
      have etq' : oc y tq = oc y (cR (y.2.2 q)) := by rw [etq, eqs]; rfl
      have etp' : oc y tp = oc y (cR (y.2.2 p)) := by rw [etp, es]; rfl
      have ep2 : oc y p = .pr (oc y l) (oc y tp) := by rw [es, el', etp']
      have eq2 : oc y q = .pr (oc y l) (oc y tq) := by rw [eqs, elq, etq']
      have wp := np.2.1
      rw [ep2] at wp
      obtain ⟨_, lp, wp⟩ := wp.2 nq'
      have wq := nq.2.1
      rw [eq2] at wq
      obtain ⟨_, lq, wq⟩ := wq.2 nq'
      have szp : (oc y p).sz = 1 + Ob.szM true (oc y tp) := by rw [ep2]; exact if_neg nq'
      have szq : (oc y q).sz = 1 + Ob.szM true (oc y tq) := by rw [eq2]; exact if_neg nq'
      have hszp := np.2.2
      have hszq := nq.2.2
      -- items are laid on the pile
      refine pv_10_matches_169_i (fun w3 w4 w7 w8 z => w4 = x4 ∧ VN z w7 ∧ VN z w8 ∧ Ob.wtM (Sp.arOf E) true (oc z w7) ∧ Ob.wtM (Sp.arOf E) true (oc z w8) ∧ Ob.szM true (oc z w7) ≤ 120 ∧ Ob.szM true (oc z w8) ≤ 120 ∧ Ob.len (oc z w8) = Ob.len (oc z w7) ∧ MtC u E (oc u a) (oc u b) z w3 (x4 + 1) (fun s => Ob.sbM s true (oc z w8) = oc z w7) (fun x => vr true (oc z w8) x) (Ob.szM true (oc z w8))) ?_ ⟨rfl, htq, htp, wq, wp, by omega, by omega, by rw [lp, lq], ?_⟩
      rotate_left
      · refine ⟨gy, ⟨by omega, by omega, by omega, by omega⟩, ⟨⟨hB, hBd⟩, hBv⟩, fun i i0 i1 => hN i i0 (by omega), fun s => ?_, fun x hx => ?_⟩
        · have : Ob.sbM s false (oc y p) = oc y q ↔ Ob.sbM s true (oc y tp) = oc y tq := by
            rw [ep2, eq2, sb_pr, if_neg nq']
            exact ⟨fun z => (Ob.pr.inj z).2, fun z => by rw [z]⟩
          rw [hS s, split s, this]
          exact ⟨fun z => ⟨z.1, z.2.1.1, z.2.1.2⟩, fun z => ⟨z.1, ⟨z.2.1, z.2.2⟩, trivial⟩⟩
        · rcases vsplit x hx with z | z | z
          · exact Or.inl z
          · exact Or.inr (Or.inl z)
          · rw [ep2] at z
            exact Or.inr (Or.inr (vr_pr.mp z).2)
      intro w3 w4 w7 w8 z hJ
      obtain ⟨ew4, v7, v8, t7, t8, s7, s8, hlen, gz, ⟨d1, d2, d3, d4⟩, ⟨⟨hBz, hBdz⟩, hBvz⟩, hNz, hSz, hVz⟩ := hJ
      rw [ew4]
      have hTz := gz.1
      have wgz := wsm_ge z w3.toNat
      unfold pv_10_matches_169b
      refine pc_isPair hTz v8 (fun r5 hr5 => ⟨fun z5 => ?_, fun z5 => ⟨fun z6 => ?_, fun z6 => ?_⟩⟩)
      · -- all laid
        have n8 : oc z w8 = Ob.nil ∧ oc z w7 = Ob.nil := by
          have h8 := hr5.f z5
          cases e8 : oc z w8 with
          | op x y => rw [e8] at h8; cases h8
          | var x =>
            rw [e8] at t8 hlen
            have t8 : .var x = Ob.nil := t8
            refine ⟨t8, ?_⟩
            rw [t8, Ob.len_nil] at hlen
            cases e7 : oc z w7 with
            | var x7 => rw [e7] at t7; exact t7
            | op x7 y7 =>
              rw [e7] at hlen
              have : Ob.len (.op x7 y7) = if Ob.len y7 = -1 then -1 else Ob.len y7 + 1 := rfl
              have h9 := Ob.len_low y7
              rw [this] at hlen
              by_cases q9 : Ob.len y7 = -1
              · rw [if_pos q9] at hlen; omega
              · rw [if_neg q9] at hlen; omega
        intro _
        have p8 := (Ob.szM_pos true (oc z w8)).1
        refine ⟨gz, ⟨d1, d2, d3, by omega⟩, ⟨⟨hBz, hBdz⟩, hBvz⟩, hNz, fun s => ?_, fun x hx => ?_⟩
        · rw [hSz s, n8.1, n8.2]
          exact ⟨fun w => ⟨w.1, w.2.1, trivial⟩, fun w => ⟨w.1, w.2.1, rfl⟩⟩
        · rcases hVz x hx with w | w | w
          · exact Or.inl w
          · exact Or.inr (Or.inl w)
          · rw [n8.1] at w
            obtain ⟨w1, _⟩ := w
            cases w1
      · have p8 := (Ob.szM_pos true (oc z w8)).1
        omega
      · have h8 := hr5.t z5
        have h7 : (oc z w7).isPr = true := by
          cases e7 : oc z w7 with
          | op x y => rfl
          | var x =>
            rw [e7] at hlen t7
            have t7 : .var x = Ob.nil := t7
            rw [t7, Ob.len_nil] at hlen
            cases e8 : oc z w8 with
            | var x8 => rw [e8] at h8; cases h8
            | op x8 y8 =>
              rw [e8] at hlen
              have : Ob.len (.op x8 y8) = if Ob.len y8 = -1 then -1 else Ob.len y8 + 1 := rfl
              have h9 := Ob.len_low y8
              rw [this] at hlen
              by_cases q9 : Ob.len y8 = -1
              · rw [if_pos q9] at hlen; omega
              · rw [if_neg q9] at hlen; omega
        obtain ⟨a8, b8, _, _, es8⟩ := oc_sides hTz v8 ((oc_isPr hTz v8).mp h8)
        obtain ⟨a7, b7, _, _, es7⟩ := oc_sides hTz v7 ((oc_isPr hTz v7).mp h7)
        refine pc_left hTz v8 (fun l8 hl8 el8 => ?_)
        intro _ _ z1 ez1
        have k1 : CG f8b f8m z z1 := by rw [ez1]; exact CG_A hTz (by decide) (by decide)
        refine pc_left k1.1 (v7.up k1) (fun l7 hl7 el7 => ?_)
        intro _ _ z2 ez2
        have k2 : CG f8b f8m z1 z2 := by rw [ez2]; exact CG_A k1.1 (by decide) (by decide)
        have k12 := k1.tr k2
        have c2' : z2.2.2 = z.2.2 := by rw [ez2, ez1]; rfl
        have ec : ∀ k, oc z2 k = oc z k := oc_same c2'
        have ec1 : ∀ k, oc z1 k = oc z k := oc_same (by rw [ez1]; rfl)
        have n2 : z2.1 = z.1 := by rw [ez2, ez1]; rfl
        refine pc_right k2.1 (v7.up k12) (fun t7' ht7 et7 => ?_)
        intro _
        refine pc_right k2.1 (v8.up k12) (fun t8' ht8 et8 => ?_)
        rw [ec1] at el7
        rw [ec, ec] at et7 et8
        have hl7z : VN z l7 := ⟨hl7.1, by have := hl7.2; rw [ez1] at this; exact this⟩
        rw [ec1] at el7
        have ht7z : VN z t7' := ⟨ht7.1, by have := ht7.2; rw [n2] at this; exact this⟩
        have ht8z : VN z t8' := ⟨ht8.1, by have := ht8.2; rw [n2] at this; exact this⟩
        obtain ⟨nl8, wt8, sz8, e8⟩ := row_nd hTz v8 h8 t8 s8 hl8 el8 ht8z et8
        obtain ⟨nl7, wt7, sz7, e7⟩ := row_nd hTz v7 h7 t7 s7 hl7z el7 ht7z et7
        have r41 : ∀ j, z2.2.1 41 j = if j = w3 then l8 else z.2.1 41 j := fun j => by rw [ez2, ez1]; rfl
        have r42 : ∀ j, z2.2.1 42 j = if j = w3 then l7 else z.2.1 42 j := fun j => by rw [ez2, ez1]; rfl
        have rr : ∀ k, k ≠ 41 → k ≠ 42 → z2.2.1 k = z.2.1 k := fun k h1 h2 => by rw [ez2, ez1]; exact (if_neg h2).trans (if_neg h1)
        have ebd : bdL z2 = bdL z := by
          unfold bdL
          rw [n2, rr 35 (by decide) (by decide), rr 36 (by decide) (by decide)]
          exact List.map_congr_left (fun i _ => by rw [ec, ec])
        have sp7 := Ob.sz_pos (oc z l7)
        have sp8 := Ob.sz_pos (oc z l8)
        have st7 := (Ob.szM_pos true (oc z t7')).1
        have st8 := (Ob.szM_pos true (oc z t8')).1
        have ndz2 : ∀ k, NdC z E k → NdC z2 E k := fun k h => (h.up hTz k12).1
        have ews : wsm z2 (w3 + 1).toNat = wsm z w3.toNat + (oc z l8).sz := by
          rw [show (w3 + 1).toNat = w3.toNat + 1 by omega]
          show wsm z2 w3.toNat + (oc z2 (z2.2.1 41 ((w3.toNat : Nat) : Int))).sz = _
          rw [r41, if_pos (by omega), ec, wsm_congr (y := z) (z := z2) w3.toNat (fun i hi => by rw [r41, if_neg (by omega), ec])]
        refine ⟨rfl, ht7, ht8, by rw [ec]; exact wt7, by rw [ec]; exact wt8, by rw [ec]; omega, by rw [ec]; omega, ?_, gz.tr k12, ⟨by omega, by omega, by rw [n2]; exact d3, ?_⟩, ⟨⟨?_, ?_⟩, ?_⟩, fun i i0 i1 => ?_, fun s => ?_, fun x hx => ?_⟩
        · rw [ec, ec]
          rw [e8, e7, Ob.len_pr, Ob.len_pr] at hlen
          have h1 := Ob.len_low (oc z t8')
          have h2 := Ob.len_low (oc z t7')
          by_cases q1 : Ob.len (oc z t8') = -1
          · rw [if_pos q1] at hlen
            by_cases q2 : Ob.len (oc z t7') = -1
            · rw [q1, q2]
            · rw [if_neg q2] at hlen; omega
          · rw [if_neg q1] at hlen
            by_cases q2 : Ob.len (oc z t7') = -1
            · rw [if_pos q2] at hlen; omega
            · rw [if_neg q2] at hlen; omega
        · rw [ews, ec]
          omega
        · exact (hBz.mono hTz k12 (by rw [n2]) (rr 35 (by decide) (by decide)) (rr 36 (by decide) (by decide))).1
        · intro i j i0 i1 i2
          rw [n2] at i2
          rw [rr 35 (by decide) (by decide), ec, ec]
          exact hBdz i j i0 i1 i2
        · intro i i0 i1
          rw [n2] at i1
          rw [rr 35 (by decide) (by decide), rr 36 (by decide) (by decide), ec]
          obtain ⟨f1, f2⟩ := hBvz i i0 i1
          exact ⟨f1, ndz2 _ f2⟩
        · rw [r41, r42]
          by_cases qi : i = w3
          · rw [if_pos qi, if_pos qi]; exact ⟨ndz2 _ nl8, ndz2 _ nl7⟩
          · rw [if_neg qi, if_neg qi]
            obtain ⟨f1, f2⟩ := hNz i i0 (by omega)
            exact ⟨ndz2 _ f1, ndz2 _ f2⟩
        · have h1 : PnA s z2 (w3 + 1) ↔ PnA s z w3 ∧ Ob.sbM s false (oc z l8) = oc z l7 := by
            constructor
            · intro h
              refine ⟨fun i i0 i1 => ?_, ?_⟩
              · have := h i i0 (by omega)
                rw [r41, r42, if_neg (by omega), if_neg (by omega), ec, ec] at this; exact this
              · have := h w3 d1 (by omega)
                rw [r41, r42, if_pos rfl, if_pos rfl, ec, ec] at this; exact this
            · rintro ⟨h, h2⟩ i i0 i1
              rw [r41, r42, ec, ec]
              by_cases qi : i = w3
              · rw [if_pos qi, if_pos qi]; exact h2
              · rw [if_neg qi, if_neg qi]; exact h i i0 (by omega)
          have h2 : Ob.sbM s true (oc z w8) = oc z w7 ↔ Ob.sbM s false (oc z l8) = oc z l7 ∧ Ob.sbM s true (oc z t8') = oc z t7' := by
            rw [e8, e7, sb_row]
            exact ⟨fun w => Ob.pr.inj w, fun w => by rw [w.1, w.2]⟩
          rw [hSz s]
          show Ag s (bdL z) ∧ PnA s z w3 ∧ Ob.sbM s true (oc z w8) = oc z w7 ↔ Ag s (bdL z2) ∧ PnA s z2 (w3 + 1) ∧ Ob.sbM s true (oc z2 t8') = oc z2 t7'
          rw [h2, ebd, h1, ec, ec]
          exact ⟨fun w => ⟨w.1, ⟨w.2.1, w.2.2.1⟩, w.2.2.2⟩, fun w => ⟨w.1, w.2.1.1, w.2.1.2, w.2.2⟩⟩
        · rw [ebd]
          rcases hVz x hx with w | ⟨i, i0, i1, w⟩ | w
          · exact Or.inl w
          · exact Or.inr (Or.inl ⟨i, i0, by omega, by rw [r41, if_neg (by omega), ec]; exact w⟩)
          · rw [e8] at w
            rcases vr_row.mp w with w | w
            · exact Or.inr (Or.inl ⟨w3, d1, by omega, by rw [r41, if_pos rfl, ec]; exact w⟩)
            · exact Or.inr (Or.inr (by rw [ec]; exact w))
    · -- no call, no variable
      have nc := hr2.f (Decidable.not_not.mp z2)
      refine ⟨fun he => ?_, fun hne => fail (fun s _ z => ?_)⟩
      · intro _
        refine skip (fun s _ => ?_) (fun x hx => absurd hx (vr_fix nc nv))
        rw [sb_fix nc nv, he]
      · rw [sb_fix nc nv] at z
        exact hne ((hTy.1.inj np.1.1 np.1.2 nq.1.1 nq.1.2).mp z)
  · -- a variable
    have iv := hr1.t z1
    have hsb : ∀ s, Ob.sbM s false (oc y p) = s (oc y p) := fun s => by
      cases e : oc y p with
      | op x z => rw [e] at iv; cases iv
      | var x => rw [e] at iv; rw [sb_leaf, if_pos iv]
    have hvr : ∀ x, vr false (oc y p) x → x = oc y p := fun x h => by
      cases e : oc y p with
      | op x z => rw [e] at iv; cases iv
      | var z => rw [e] at h; exact (vr_leaf.mp h).1
    refine pc_standsFor hTy hB np.1 (fun hn => ⟨fun z => absurd rfl z, fun _ => ?_⟩) (fun r3 v3 hs3 => ⟨fun _ => ⟨fun he => ?_, fun hne => fail (fun s hag z => ?_)⟩, fun z => ?_⟩)
    · -- a new one
      refine pc_bind hTy hB np.1 nq.1 (by omega) (fun v gv hBn hbl h39 hrr h35 h36 hc => ?_)
      intro _
      have ec : ∀ k, oc v k = oc y k := oc_same hc
      have ndv : ∀ k, NdC y E k → NdC v E k := fun k h => (h.up hTy gv).1
      refine ⟨gy.tr gv, ⟨by omega, by omega, by omega, ?_⟩, ⟨⟨hBn, fun i j i0 i1 i2 => ?_⟩, fun i i0 i1 => ?_⟩, fun i i0 i1 => ?_, fun s => ?_, fun x hx => ?_⟩
      · rw [wsm_congr (y := y) (z := v) (x3 + -1).toNat (fun i hi => by rw [hrr 41 (by decide) (by decide), ec])]
        omega
      · rw [h35, h35, if_neg (show ¬ i = y.1 39 by omega), ec, ec]
        by_cases qj : j = y.1 39
        · rw [if_pos qj]
          intro qe
          refine lk_no7.mp hn (List.mem_map.mpr ⟨(oc y (y.2.1 35 i), oc y (y.2.1 36 i)), ?_, qe⟩)
          unfold bdL
          exact List.mem_map.mpr ⟨i.toNat, List.mem_range.mpr (by omega), by rw [Int.toNat_of_nonneg i0]⟩
        · rw [if_neg qj]; exact hBd i j i0 i1 (by omega)
      · rw [h35, h36]
        by_cases qi : i = y.1 39
        · rw [if_pos qi, if_pos qi, ec]; exact ⟨iv, ndv _ nq⟩
        · rw [if_neg qi, if_neg qi, ec]
          obtain ⟨f1, f2⟩ := hBv i i0 (by omega)
          exact ⟨f1, ndv _ f2⟩
      · rw [hrr 41 (by decide) (by decide), hrr 42 (by decide) (by decide)]
        obtain ⟨f1, f2⟩ := hN i i0 (by omega)
        exact ⟨ndv _ f1, ndv _ f2⟩
      · have hpn : PnA s v (x3 + -1) ↔ PnA s y (x3 + -1) := by
          unfold PnA
          rw [hrr 41 (by decide) (by decide), hrr 42 (by decide) (by decide)]
          exact ⟨fun h i i0 i1 => by have := h i i0 i1; rw [ec, ec] at this; exact this, fun h i i0 i1 => by rw [ec, ec]; exact h i i0 i1⟩
        rw [hS s, split s, hsb, hbl, Ag_app hn, hpn]
        exact ⟨fun w => ⟨⟨w.1, w.2.1.2⟩, w.2.1.1, trivial⟩, fun w => ⟨w.1.1, ⟨w.2.1, w.1.2⟩, trivial⟩⟩
      · rw [hbl]
        rcases vsplit x hx with w | ⟨i, i0, i1, w⟩ | w
        · refine Or.inl ?_
          rw [lkApp x hn]
          by_cases q9 : oc y p = x
          · rw [if_pos q9]; rfl
          · rw [if_neg q9]; exact w
        · exact Or.inr (Or.inl ⟨i, i0, i1, by rw [hrr 41 (by decide) (by decide), ec]; exact w⟩)
        · refine Or.inl ?_
          rw [hvr x w, lkApp _ hn, if_pos rfl]; rfl
    · intro _
      refine skip (fun s hag => ?_) (fun x hx => by rw [hvr x hx, hs3]; rfl)
      rw [hsb, hag _ _ hs3, he]
    · rw [hsb, hag _ _ hs3] at z
      exact hne ((hTy.1.inj v3.1 v3.2 nq.1.1 nq.1.2).mp z)
    · have := v3.1; have := Decidable.not_not.mp z; omega
theorem pc_matches [DecidableEq Ob] {a b : Int} {Q : Int → iST → Prop} {u : iST} {E : Sp.Env} (hT : CT u) (na : NdC u E a) (nb : NdC u E b)
    (h0 : ∀ v, CG f8b f8m u v → (∀ s, Ob.sbM s false (oc u a) ≠ oc u b) → Q 0 v)
    (h1 : ∀ v, CG f8b f8m u v → BnOk v → (∀ i, 0 ≤ i → i < v.1 39 → (oc v (v.2.1 35 i)).isVar = true ∧ NdC v E (v.2.1 36 i)) → (∀ s, Ob.sbM s false (oc u a) = oc u b ↔ Ag s (bdL v)) → (∀ x, vr false (oc u a) x → (Ob.lk (bdL v) x).isSome = true) → Q 1 v) : pv_10_matches a b Q u := pc_matchesD hT na nb h0 (fun v g b _ h2 h3 h4 => h1 v g b h2 h3 h4)
