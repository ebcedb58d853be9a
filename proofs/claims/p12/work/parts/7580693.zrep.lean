-- deps: 79998692
/-! the replay, the class: a note is asked again, by itself -/
section
variable {α : Type} {δ : Nat} {u0 : iST} {E : Sp.Env} {b0 : Int} {lo : Nat} {X : (Ob → Prop) × Int} {R : EStateM.Result Unit Sz.Wk α} {Q : Int → iST → Prop}
theorem CtJ_z.no [DecidableEq Ob] (hC : CtJ_z u0 E (b0, none, E, lo, X) R Q) {s : Sz.Wk} {e : Unit} (h : R = .error e s) : False := by
  have f := hC.2.2.1.2
  rw [h] at f
  have f : lo = 0 ∧ (none : Option Int) ≠ none := f
  exact f.2 rfl
theorem PdK_z.alive [DecidableEq Ob] {v : iST} {m : Sz.M α} {n r : Nat → Bool} (hC : CtJ_z u0 E (b0, none, E, lo, X) R Q) (hP : PdK_z (b0, none, E, lo, X) δ n r u0 v R m) : v.1 32 = 0 := by
  rcases hP.2 with ⟨s, hl, _⟩ | ⟨s, _, e⟩
  · exact hl.1
  · exact absurd e (fun e => hC.no e)
/-- within a note that is asked again, the next note answers -/
theorem rj_rc [DecidableEq Ob] (hC : CtJ_z u0 E (b0, none, E, lo, X) R Q) : RjG_z u0 E (b0, none, E, lo, X) R Q Sz.rc 1 := by
  intro δ ctx x g row t T v K L hL hP h32 hK h23 hg nx cx T0 ht1 ht2 hO
  have hT := hP.1.1
  have h27 : v.1 27 = 1 := by rw [hP.1.2.2.1 27 rfl]; exact hC.2.2.2.1.2.1
  obtain ⟨s, hl, eR⟩ := hP.live h32
  obtain ⟨m1, m2, m3, m4⟩ := hl.2.2.2.1
  have m1 : 0 ≤ v.1 28 := m1
  have m2 : v.1 28 + (s.2.2.length : Int) = v.1 26 ∧ v.1 26 ≤ 1000 := m2
  have m4 : NzL E v (v.1 28) s.2.2 := m4
  -- the next note
  have e0 : Sz.rc ctx (oc v x) (decide (g = 1)) s = (match s.2.2 with | [] => .error () s | n :: t => if n.1 = Sz.row ctx ∧ n.2.1 = oc v x ∧ n.2.2.1 = decide (g = 1) then .ok n.2.2.2.1 (s.1, s.2.1, t.drop n.2.2.2.2) else .error () s) := rfl
  cases es : s.2.2 with
  | nil =>
    rw [es] at e0
    exact absurd (eR.trans (bind_err e0)) (fun q => hC.no q)
  | cons n tl =>
  rw [es] at e0
  have e0 : Sz.rc ctx (oc v x) (decide (g = 1)) s = if n.1 = Sz.row ctx ∧ n.2.1 = oc v x ∧ n.2.2.1 = decide (g = 1) then .ok n.2.2.2.1 (s.1, s.2.1, tl.drop n.2.2.2.2) else .error () s := e0
  by_cases hm : n.1 = Sz.row ctx ∧ n.2.1 = oc v x ∧ n.2.2.1 = decide (g = 1)
  rotate_left
  · rw [if_neg hm] at e0
    exact absurd (eR.trans (bind_err e0)) (fun q => hC.no q)
  rw [if_pos hm] at e0
  have eR2 : R = K n.2.2.2.1 (s.1, s.2.1, tl.drop n.2.2.2.2) := eR.trans (bind_ok e0)
  rw [es] at m2 m4
  have m2 : v.1 28 + ((tl.length + 1 : Nat) : Int) = v.1 26 ∧ v.1 26 ≤ 1000 := m2
  obtain ⟨q1, q2⟩ := m4 0 (Nat.zero_lt_succ _)
  have ez : v.1 28 + ((0 : Nat) : Int) = v.1 28 := by omega
  rw [ez] at q1 q2
  have q2 : some n = some (ntC v (v.1 28)) := q2
  have q2 := Option.some.inj q2
  obtain ⟨⟨ctx', c1⟩, n0, n3, g1, l1, l2⟩ := q1
  have f0 : v.2.1 52 (5 * v.1 28 + 0) = x := (hT.1.inj n0.1.1 n0.1.2 nx.1.1 nx.1.2).mp (by have := hm.2.1; rw [q2] at this; exact this)
  have f2 : v.2.1 52 (5 * v.1 28 + 2) = row := (hT.1.inj c1.1.1 c1.1.2 cx.1.1 cx.1.2).mp (by have := hm.1; rw [q2] at this; rw [cx.2.1]; exact this)
  have f1 : v.2.1 52 (5 * v.1 28 + 1) = g := by
    have h := hm.2.2
    rw [q2] at h
    have h : decide (v.2.1 52 (5 * v.1 28 + 1) = 1) = decide (g = 1) := h
    by_cases c : g = 1
    · rw [decide_eq_true c] at h
      rw [c]; exact of_decide_eq_true h
    · rw [decide_eq_false c] at h
      have := of_decide_eq_false h
      omega
  have eo : n.2.2.2.1 = oc v (v.2.1 52 (5 * v.1 28 + 3)) := by rw [q2]; rfl
  have el : n.2.2.2.2 = (v.2.1 52 (5 * v.1 28 + 4) - v.1 28 - 1).toNat := by rw [q2]; rfl
  unfold pv_6_ask
  intro a1 ea1 _
  rw [ea1, h27]
  refine ⟨(fun z => by cases z), fun _ => ?_⟩
  intro a2 ea2 _
  rw [ea2, h23]
  refine ⟨fun z => absurd z (by decide), fun _ => ?_⟩
  unfold pv_6_recalled
  intro v1 e1 _
  rw [e1]
  refine ⟨fun z => by omega, fun _ => ?_⟩
  intro v2 ev2 _ v3 ev3 _
  rw [ev2, ev3]
  refine ⟨fun _ => ?_, fun z => by omega⟩
  intro v4 ev4 _
  rw [ev4]
  intro _ _ _ _ v7 ev7 _
  rw [ev7, f0]
  refine ⟨fun z => absurd rfl z, fun _ => ?_⟩
  intro _ _ v8 ev8 _
  rw [ev8, f1]
  refine ⟨fun z => absurd rfl z, fun _ => ?_⟩
  intro _ _ v9 ev9 _
  rw [ev9, f2]
  refine ⟨fun _ => ?_, fun z => absurd rfl z⟩
  intro _ _ v10 ev10 _ w ew _ _ v11 ev11 _ w2 ew2 v12 ev12 _
  have g1w : CG (f8Zz (b0, none, E, lo, X)) f8Jr v w := by rw [ew]; exact CG_I hT (by decide) rfl
  have wn : ∀ k, k ≠ 28 → w.1 k = v.1 k := fun k hk => by rw [ew]; exact iIc_ne _ _ hk
  have w28 : w.1 28 = v.2.1 52 (5 * v.1 28 + 4) := by rw [ew, iIc_at, ev10]
  have wr : w.2 = v.2 := by rw [ew]; rfl
  have ea : v11 = v.2.1 52 (5 * v.1 28 + 3) := by rw [ev11, wr]
  rw [ea] at ew2
  have g2w : CG (f8Zz (b0, none, E, lo, X)) f8Jr w w2 := by rw [ew2]; exact CG_I g1w.1 (by decide) rfl
  have w2n : ∀ k, k ≠ 24 → w2.1 k = w.1 k := fun k hk => by rw [ew2]; exact iIc_ne _ _ hk
  have w224 : w2.1 24 = v.2.1 52 (5 * v.1 28 + 3) := by rw [ew2, iIc_at]
  have w2r : w2.2 = v.2 := by rw [ew2]; exact wr
  have gv := g1w.tr g2w
  obtain ⟨n3w, o3w⟩ := n3.up hT gv
  have n30 := n3.1.1
  have zn : ∀ k, k ≠ 24 → k ≠ 28 → w2.1 k = v.1 k := fun k h1 h2 => by rw [w2n k h1, wn k h2]
  have z28 : w2.1 28 = v.2.1 52 (5 * v.1 28 + 4) := by rw [w2n 28 (by decide)]; exact w28
  have kw : RjK_z (b0, none, E, lo, X) 1 v w2 := ⟨gv, fun j _ => by rw [w2r], by rw [zn 26 (by decide) (by decide)]; exact Int.le_refl _, fun j _ => by rw [w2r]⟩
  have hst : 0 ≤ v.1 31 ∧ v.1 31 + (s.1 : Int) = v.1 30 := hl.2.1
  have hN2 : NzL E w2 (w2.1 28) (tl.drop n.2.2.2.2) := fun i hi => by
    rw [List.length_drop] at hi
    obtain ⟨p1, p2⟩ := m4 (n.2.2.2.2 + i + 1) (by rw [List.length_cons]; omega)
    have ei : v.1 28 + ((n.2.2.2.2 + i + 1 : Nat) : Int) = w2.1 28 + (i : Int) := by rw [z28]; omega
    rw [ei] at p1 p2
    obtain ⟨k1, k2⟩ := p1.up hT gv (by rw [zn 26 (by decide) (by decide)]; exact Int.le_refl _) (fun j _ _ => by rw [w2r])
    refine ⟨k1, ?_⟩
    rw [k2, List.getElem?_drop]
    rw [List.getElem?_cons_succ] at p2
    exact p2
  have low : lo ≤ s.1 := by
    have f := hC.2.2.1
    rw [eR2] at f
    exact f.low (hK _)
  have fin : L w2 := by
    refine hL w2 (hO w2 _ t kw n3w w224 (by rw [zn 23 (by decide) (by decide)]; exact h23) (by rw [zn 32 (by decide) (by decide)]; exact h32) ⟨hP.1.tr gv, Or.inl ⟨(s.1, s.2.1, tl.drop n.2.2.2.2), ⟨by rw [zn 32 (by decide) (by decide)]; exact h32, ?_, hl.2.2.1.up hT gv (zn 29 (by decide) (by decide)), ⟨?_, ⟨?_, ?_⟩, ⟨fun z => absurd rfl z, fun _ => ?_⟩, hN2⟩, low⟩, by rw [o3w, ← eo]; exact eR2⟩⟩ ?_)
    · show 0 ≤ w2.1 31 ∧ w2.1 31 + (s.1 : Int) = w2.1 30
      rw [zn 31 (by decide) (by decide), zn 30 (by decide) (by decide)]
      exact hst
    · show 0 ≤ w2.1 28
      rw [z28]; omega
    · show w2.1 28 + ((tl.drop n.2.2.2.2).length : Int) = w2.1 26
      rw [List.length_drop, z28, zn 26 (by decide) (by decide)]
      omega
    · rw [zn 26 (by decide) (by decide)]; exact m2.2
    · rw [zn 26 (by decide) (by decide)]
      exact m3.2 rfl
    · have ht1 : t + T ≤ 24 * (v.1 31 + v.1 28 - (u0.1 31 + u0.1 28)) + 4 := ht1
      show t + T ≤ 24 * (w2.1 31 + w2.1 28 - (u0.1 31 + u0.1 28))
      rw [zn 31 (by decide) (by decide), z28]
      omega
  rw [ev12, w224]
  exact ⟨fun _ => fin, fun z => by omega⟩
/-- the note that is asked again ends -/
theorem fn_rep [DecidableEq Ob] {w0 : iST} {x g row T : Int} {y0 : Ob} {K : Ob → Sz.M Ob} {R : EStateM.Result Unit Sz.Wk Ob} (hC : CtJ_z u0 E (b0, none, E, lo, X) R Q)
    (hq : ∀ a w s v', Lv_z (b0, none, E, lo, X) w s → R = K v' s → CG (f8Zz (b0, none, E, lo, X)) f8Jr u0 w → RjK_z (b0, none, E, lo, X) 0 w0 w → NdC w E a → oc w a = Sp.fin (decide (g = 1)) v' → Q a w) : FnJ u0 E (b0, none, E, lo, X) R Q 0 x g row w0 T K := by
  intro a t v L hL hk hF na hP ht
  have hT := hP.1.1
  have h27 : v.1 27 = 1 := by rw [hP.1.2.2.1 27 rfl]; exact hC.2.2.2.1.2.1
  have h32 := PdK_z.alive hC hP
  obtain ⟨s, hl, eR⟩ := hP.live h32
  refine pc_finR (B := (b0, none, E, lo, X)) hT hF.1 hF.2.2.1 na (fun y w gw w23 w24 w51 wc wn hb w52 _ => hL w ?_)
  obtain ⟨ny, ey⟩ := hb h32
  obtain ⟨nyw, eyw⟩ := ny.up hT gw
  have w52 := w52 (by rw [h27]; decide)
  have w32 : w.1 32 = 0 := by rw [wn 32 (by decide) (by decide)]; exact h32
  have hst : 0 ≤ v.1 31 ∧ v.1 31 + (s.1 : Int) = v.1 30 := hl.2.1
  have lw : Lv_z (b0, none, E, lo, X) w s := ⟨w32, by
    show 0 ≤ w.1 31 ∧ w.1 31 + (s.1 : Int) = w.1 30
    rw [wn 31 (by decide) (by decide), wn 30 (by decide) (by decide)]
    exact hst, hl.2.2.1.up hT gw (wn 29 (by decide) (by decide)), hl.2.2.2.1.up hT gw (wn 26 (by decide) (by decide)) (wn 28 (by decide) (by decide)) (by rw [wn 31 (by decide) (by decide)]; exact Int.le_refl _) w52, hl.2.2.2.2⟩
  have kw : RjK_z (b0, none, E, lo, X) 0 w0 w := hk.tr ⟨gw, fun j _ => by rw [w51], by rw [wn 26 (by decide) (by decide)]; exact Int.le_refl _, fun j _ => by rw [w52]⟩ (Int.le_refl _)
  have fin : pv_6_rewritten_405 Q w := by
    unfold pv_6_rewritten_405
    intro b eb _
    rw [eb]
    refine ⟨fun z => absurd w32 z, fun _ => ?_⟩
    intro e ee _
    rw [ee, w24]
    exact hq y w s (oc v a) lw eR (hP.1.tr gw) kw nyw (by rw [eyw]; exact ey)
  refine fo_v_6_rewritten_20 ?_
  unfold pv_6_rewritten_20b
  refine ⟨fun _ => fin, fun _ => ?_⟩
  intro b eb _
  rw [eb, w23]
  exact ⟨fun _ => fin, fun z => absurd (Int.le_refl _) z⟩
end
/-- a note asked again: it comes out as before, and nothing is made -/
theorem pc_replayed [DecidableEq Ob] {x g row : Int} {k : Nat} {Q : Int → iST → Prop} {v : iST} {E : Sp.Env} {ctx : List Ob} {X : Ob → Prop} {t : List Sz.Nt} {y : Ob} {s' : Sz.Wk} (hT : CT v) (hE : EnvZ v E) (h27 : v.1 27 = 1) (h32 : v.1 32 = 0) (hst : StS v (k, 0)) (hX : ∀ o, X o → ExT v o) (hg : g = 0 ∨ g = 1) (nx : NdC v E x) (cx : CxC v E row ctx) (h28 : 1 ≤ v.1 28) (hlen : v.1 28 + (t.length : Int) = v.1 26 ∧ v.1 26 ≤ 1000) (hN : NzL E v (v.1 28) t) (hR : Sz.rwStep E Sz.rc ctx (oc v x) (decide (g = 1)) (k, (0, []), t) = .ok y s') (hA : AlL X s'.2.1) (hk : k ≤ s'.1 + 999)
    (hq : ∀ a w, CG f8Yz f8Jr v w → NdC w E a → oc w a = Sp.fin (decide (g = 1)) y → w.1 32 = 0 → w.1 29 = v.1 29 → StS w (s'.1, 0) → w.1 28 + (s'.2.2.length : Int) = w.1 26 → w.1 26 = v.1 26 → (∀ i, i < 5 * v.1 26 → w.2.1 52 i = v.2.1 52 i) → Q a w) : pv_6_rewritten x g row Q v := by
  have h31 : 0 ≤ v.1 31 ∧ v.1 31 + (k : Int) = v.1 30 := hst
  have fz : Fit_z (v.1 29, none, E, s'.1, X, v.1 26) (Sz.rwStep E Sz.rc ctx (oc v x) (decide (g = 1)) (k, (0, []), t)) := by
    rw [hR]
    exact ⟨⟨fun z => absurd rfl z, fun _ => hA⟩, Nat.le_refl _⟩
  -- a note before, so that the first turns are paid
  obtain ⟨u0, eu⟩ : ∃ u0, u0 = iI v 28 (v.1 28 - 1) := ⟨_, rfl⟩
  have gvu : CG f8Yz f8Jr v u0 := by rw [eu]; exact CG_I hT (by decide) (by decide)
  have un : ∀ k, k ≠ 28 → u0.1 k = v.1 k := fun k hk => by rw [eu]; exact if_neg hk
  have u28 : u0.1 28 = v.1 28 - 1 := by rw [eu]; rfl
  have ev : v = iI u0 28 (v.1 28) := by
    refine Prod.ext (funext (fun k => ?_)) (by rw [eu]; rfl)
    show v.1 k = if k = 28 then v.1 28 else u0.1 k
    by_cases c : k = 28
    · rw [if_pos c, c]
    · rw [if_neg c, un k c]
  have guv : CG (f8Zz (v.1 29, none, E, s'.1, X, v.1 26)) f8Jr u0 v := by
    have : CG (f8Zz (v.1 29, none, E, s'.1, X, v.1 26)) f8Jr u0 (iI u0 28 (v.1 28)) := CG_I gvu.1 (by decide) rfl
    rw [← ev] at this
    exact this
  have hC : CtJ_z u0 E (v.1 29, none, E, s'.1, X, v.1 26) (Sz.rwStep E Sz.rc ctx (oc v x) (decide (g = 1)) (k, (0, []), t)) Q := ⟨gvu.1, hE.mono hT gvu, fz, ⟨rfl, by rw [un 27 (by decide)]; exact h27, by show 0 ≤ u0.1 28; omega, by rw [un 30 (by decide), un 31 (by decide)]; show v.1 30 - v.1 31 ≤ (s'.1 : Int) + 1000; omega, fun z => absurd rfl z⟩, fun w s g d e => by rw [hR] at e; cases e⟩
  unfold pv_6_rewritten
  intro y1 e1 y2 e2
  have g1 : CG f8Jn f8Jr v y1 := by rw [e1]; exact CG_I hT (by decide) (by decide)
  have g2 : CG f8Jn f8Jr y1 y2 := by rw [e2]; exact CG_I g1.1 (by decide) (by decide)
  have gg := g1.tr g2
  have yn : ∀ k, k ≠ 23 → k ≠ 24 → y2.1 k = v.1 k := fun k h1 h2 => by rw [e2, e1]; show (if k = 24 then _ else if k = 23 then _ else v.1 k) = _; rw [if_neg h2, if_neg h1]
  have y23 : y2.1 23 = 0 := by rw [e2, e1]; rfl
  have y2r : y2.2 = v.2 := by rw [e2, e1]; rfl
  have y27 : y2.1 27 = 1 := by rw [yn 27 (by decide) (by decide)]; exact h27
  -- the frame begins
  unfold pv_6_ask
  intro a1 ea1 _
  rw [ea1, y27]
  refine ⟨(fun z => by cases z), fun _ => ?_⟩
  intro a2 ea2 _
  rw [ea2, y23]
  refine ⟨fun _ => ?_, fun z => absurd (Int.le_refl _) z⟩
  unfold pv_6_ask_44
  intro a3 ea3 _
  rw [ea3, y23]
  refine ⟨fun _ => ?_, fun z => absurd (by decide) z⟩
  intro a4 ea4 _
  rw [ea4, y27]
  refine ⟨fun _ => ?_, fun z => absurd (by decide) z⟩
  unfold pv_6_ask_81
  intro n1 en1 _
  rw [en1, y23]
  intro _ _ _ _ z1 f1 _ _ z2 f2 _ _ z3 f3 _ _ z4 f4 n7 en7 _ _ _ z5 f5 n8 en8 _ _ z6 f6
  have k1 : CG f8Jn f8Jr y2 z1 := by rw [f1]; exact CG_A gg.1 (by omega) (by decide)
  have k2 : CG f8Jn f8Jr z1 z2 := by rw [f2]; exact CG_A k1.1 (by omega) (by decide)
  have k3 : CG f8Jn f8Jr z2 z3 := by rw [f3]; exact CG_A k2.1 (by omega) (by decide)
  have k4 : CG f8Jn f8Jr z3 z4 := by rw [f4]; exact CG_A k3.1 (by omega) (by decide)
  have k5 : CG f8Jn f8Jr z4 z5 := by rw [f5]; exact CG_A k4.1 (by omega) (by decide)
  have k6 : CG f8Jn f8Jr z5 z6 := by rw [f6]; exact CG_I k5.1 (by decide) (by decide)
  have gz : CG f8Jn f8Jr v z6 := gg.tr (((((k1.tr k2).tr k3).tr k4).tr k5).tr k6)
  have z51 : ∀ j, z6.2.1 51 j = if j = 17 * 0 + 4 then n7 else if j = 17 * 0 + 3 then 0 else if j = 17 * 0 + 2 then row else if j = 17 * 0 + 1 then g else if j = 17 * 0 + 0 then x else y2.2.1 51 j := fun j => by rw [f6, f5, f4, f3, f2, f1]; rfl
  have zn : ∀ k, k ≠ 23 → k ≠ 24 → z6.1 k = v.1 k := fun k h1 h2 => by
    rw [← yn k h1 h2, f6, f5, f4, f3, f2, f1]; exact if_neg h1
  have z23 : z6.1 23 = 1 := by
    have : n8 = 0 := by rw [en8, f5, f4, f3, f2, f1]; exact y23
    rw [f6, this]; rfl
  have z52 : z6.2.1 52 = v.2.1 52 := by rw [f6, f5, f4, f3, f2, f1]; show y2.2.1 52 = _; rw [y2r]
  intro n10 en10 _
  have n10v : n10 = 1 := by rw [en10, zn 27 (by decide) (by decide)]; exact h27
  rw [n10v]
  refine ⟨fun _ => ?_, fun z => absurd (by decide) z⟩
  obtain ⟨nxz, exz⟩ := nx.up hT gz
  have hPz : PdK_z (v.1 29, none, E, s'.1, X, v.1 26) 0 (f8Zz (v.1 29, none, E, s'.1, X, v.1 26)) f8Jr u0 z6 (Sz.rwStep E Sz.rc ctx (oc v x) (decide (g = 1)) (k, (0, []), t)) (Sp.bd (Sz.rwStep E Sz.rc ctx (oc z6 x) (decide (g = 1))) Sz.ret) := by
    rw [exz]
    refine ⟨guv.tr (gz.mono f8Jn_Z (fun _ q => q)), Or.inl ⟨(k, (0, []), t), ⟨by rw [zn 32 (by decide) (by decide)]; exact h32, ?_, ⟨fun o ho => (by cases ho), fun z => absurd rfl z, fun _ => ⟨fun o ho => (hX o ho).up hT gz, fun _ => ?_⟩⟩, ⟨?_, ⟨?_, ?_⟩, ⟨fun z => absurd rfl z, fun _ => ?_⟩, ?_⟩, ?_⟩, (bd_ret_z _ _).symm⟩⟩
    · show 0 ≤ z6.1 31 ∧ z6.1 31 + (k : Int) = z6.1 30
      rw [zn 31 (by decide) (by decide), zn 30 (by decide) (by decide)]
      exact h31
    · show z6.1 29 ≤ v.1 29
      rw [zn 29 (by decide) (by decide)]; exact Int.le_refl _
    · show 0 ≤ z6.1 28
      rw [zn 28 (by decide) (by decide)]; omega
    · show z6.1 28 + (t.length : Int) = z6.1 26
      rw [zn 28 (by decide) (by decide), zn 26 (by decide) (by decide)]; exact hlen.1
    · rw [zn 26 (by decide) (by decide)]; exact hlen.2
    · exact zn 26 (by decide) (by decide)
    · show NzL E z6 (z6.1 28) t
      rw [zn 28 (by decide) (by decide)]
      exact hN.up hT gz (by rw [zn 26 (by decide) (by decide)]; exact Int.le_refl _) (fun i _ _ => by rw [z52])
    · have := (rwStep_mono_z (E := E) (r := Sz.rc) (fun c o t => rc_mono) (ctx := ctx) (o := oc v x) (t := decide (g = 1))).at hR
      exact this.2
  have hF : FrJ_z (v.1 29, none, E, s'.1, X, v.1 26) 0 x g row z6 := ⟨z23, by rw [z51]; rfl, by rw [z51]; rfl, by rw [z51]; rfl, fun b hb => by cases hb⟩
  refine st_start_z (v0 := z6) (T := 0) (K := Sz.ret) (ρ := Sz.rc) (ctx := ctx) (c := 0) (x := x) (g := g) (row := row) ⟨hC, rj_rc hC, fn_rep (y0 := y) hC (fun a w s v' lw eR gw kw na ea => ?_), fun _ => Mono_z.ret, Int.le_refl _, fun c o t => rc_mono, Int.le_refl _⟩ ⟨RjK_z.rf gz.1, hF, by rw [zn 32 (by decide) (by decide)]; exact h32, nxz, cx.up hT gz, hg⟩ (by rw [z51]; rfl) hPz ?_
  · rw [hR] at eR
    have eR : EStateM.Result.ok y s' = EStateM.Result.ok v' s := eR
    injection eR with e1 e2
    rw [← e1] at ea
    rw [← e2] at lw
    have l3 := lw.2.2.1.2.2 rfl
    have lN := lw.2.2.2.1
    have le := gw.le
    have u29 := un 29 (by decide)
    have l4 : w.1 29 ≤ v.1 29 := l3.2 hA
    refine hq a w (gvu.tr (gw.mono f8Z_Y (fun _ q => q))) na ea lw.1 (by omega) lw.2.1 lN.2.1.1 (lN.2.2.1.2 rfl) (fun i hi => ?_)
    rw [kw.2.2.2 i (by rw [zn 26 (by decide) (by decide)]; exact hi), z52]
  · show (0 : Int) + 0 + 20 ≤ 24 * (z6.1 31 + z6.1 28 - (u0.1 31 + u0.1 28))
    rw [zn 31 (by decide) (by decide), zn 28 (by decide) (by decide), un 31 (by decide), u28]
    omega
