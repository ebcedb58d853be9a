-- deps: 717
/-! the class: evaluation: frames, parameters -/
def EvK [DecidableEq Ob] (c h : Int) (u v : iST) : Prop := CG f8En f8Er u v ∧ (∀ j k, j < c → 16 ≤ k → k ≤ 21 → v.2.1 k j = u.2.1 k j) ∧ ∀ j, j < h → v.2.1 22 j = u.2.1 22 j
theorem EvK.rf [DecidableEq Ob] {c h : Int} {u : iST} (hT : CT u) : EvK c h u u := ⟨CG.rf hT, fun _ _ _ _ _ => rfl, fun _ _ => rfl⟩
theorem EvK.tr [DecidableEq Ob] {c h c' h' : Int} {u v w : iST} (a : EvK c h u v) (b : EvK c' h' v w) (hc : c ≤ c') (hh : h ≤ h') : EvK c h u w := ⟨a.1.tr b.1, fun j k hj h1 h2 => (b.2.1 j k (by omega) h1 h2).trans (a.2.1 j k hj h1 h2), fun j hj => (b.2.2 j (by omega)).trans (a.2.2 j hj)⟩
theorem EvK_M [DecidableEq Ob] {c h : Int} {u v : iST} (g : CG f8M f8R u v) : EvK c h u v := ⟨g.mono f8M_En f8R_Er, fun j k _ h1 h2 => by rw [g.2.2.2 k (by unfold f8R; exact decide_eq_false (by omega))], fun j _ => by rw [g.2.2.2 22 (by decide)]⟩
theorem EvK_S [DecidableEq Ob] {c h : Int} {u v : iST} (g : CG f8S f80 u v) : EvK c h u v := ⟨g.mono f8S_En f80_any, fun j k _ h1 h2 => by rw [g.2.2.2 k rfl], fun j _ => by rw [g.2.2.2 22 rfl]⟩
theorem EvK_I [DecidableEq Ob] {c h x : Int} {u : iST} {k : Nat} (hT : CT u) (hk : 4 ≤ k ∧ k ≤ 9) : EvK c h u (iI u k x) := ⟨CG_I hT (by omega) (by unfold f8En; rw [decide_eq_true hk]; rfl), fun _ _ _ _ _ => rfl, fun _ _ => rfl⟩
theorem EvK_A [DecidableEq Ob] {c h i x : Int} {u : iST} {k : Nat} (hT : CT u) (hk : 16 ≤ k ∧ k ≤ 22) (h1 : k ≤ 21 → c ≤ i) (h2 : k = 22 → h ≤ i) : EvK c h u (iA u k i x) := by
  have far : ∀ g j, (g = k → j ≠ i) → (iA u k i x).2.1 g j = u.2.1 g j := fun g j h => by
    show (if g = k then (fun y => if y = i then x else u.2.1 k y) else u.2.1 g) j = _
    by_cases c1 : g = k
    · rw [if_pos c1]
      show (if j = i then x else u.2.1 k j) = _
      rw [if_neg (h c1), c1]
    · rw [if_neg c1]
  exact ⟨CG_A hT (by omega) (by unfold f8Er; rw [decide_eq_true hk]; rfl), fun j g hj g1 g2 => far g j (fun e => by have := h1 (by omega); omega), fun j hj => far 22 j (fun e => by have := h2 e.symm; omega)⟩
def EvSc [DecidableEq Ob] (B : Int) (v : iST) (s : Sp.Ek) (c h : Int) : Prop := v.1 4 = c ∧ v.1 5 = h ∧ v.1 9 = 0 ∧ v.1 32 = 0 ∧ v.1 8 = (s.2.1 : Int) ∧ v.1 31 + (s.1 : Int) = v.1 30 ∧ v.1 29 ≤ B + (s.2.2 : Int)
/-- what variables are -/
def EnC [DecidableEq Ob] (v : iST) (h : Int) (env : Ob → Ob) (o : Ob) : Prop := (v.1 6 = -1 ∧ ∀ x, x ∈ Ob.parts o → Ob.isVar x = false) ∨ (0 ≤ v.1 6 ∧ v.1 6 < v.1 0 ∧ 0 ≤ v.1 7 ∧ v.1 7 + itN (oc v (v.2.1 1 (v.1 6))) ≤ h ∧ (∀ i, v.1 7 ≤ i → i < v.1 7 + itN (oc v (v.2.1 1 (v.1 6))) → VN v (v.2.1 22 i)) ∧ env = fun x => (Ob.lk ((Ob.toList (oc v (v.2.1 1 (v.1 6)))).zip (lsC v (v.2.1 22) (v.1 7) (itN (oc v (v.2.1 1 (v.1 6)))).toNat)) x).getD Ob.nil)
theorem EnC.sub [DecidableEq Ob] {v : iST} {h : Int} {env : Ob → Ob} {o o' : Ob} (hE : EnC v h env o) (hs : ∀ x, x ∈ Ob.parts o' → x ∈ Ob.parts o) : EnC v h env o' := hE.imp (fun q => ⟨q.1, fun x hx => q.2 x (hs x hx)⟩) id
theorem EnC.keep [DecidableEq Ob] {v w : iST} {E : Sp.Env} {c h : Int} {env : Ob → Ob} {o : Ob} (hE : EnC v h env o) (hT : CT v) (hD : DOc v E) (k : EvK c h v w) (e6 : w.1 6 = v.1 6) (e7 : w.1 7 = v.1 7) : EnC w h env o := by
  rcases hE with q | ⟨q1, q2, q3, q4, q5, q6⟩
  · exact Or.inl ⟨by rw [e6]; exact q.1, q.2⟩
  · have v1 := (hD.2.2 (v.1 6) q1 q2).2.2.1.1
    have r1 : w.2.1 1 = v.2.1 1 := k.1.2.2.2 1 (by decide)
    have eo : oc w (v.2.1 1 (v.1 6)) = oc v (v.2.1 1 (v.1 6)) := k.1.oc hT v1.1 v1.2
    refine Or.inr ⟨by omega, by rw [e6, k.1.2.2.1 0 (by decide)]; exact q2, by omega, by rw [e6, e7, r1, eo]; exact q4, fun i i0 i1 => ?_, ?_⟩
    · rw [e7] at i0 i1
      rw [e6, r1, eo] at i1
      rw [k.2.2 i (by omega)]
      exact (q5 i i0 i1).up k.1
    · rw [e6, e7, r1, eo, q6]
      have hl : lsC w (w.2.1 22) (v.1 7) (itN (oc v (v.2.1 1 (v.1 6)))).toNat = lsC v (v.2.1 22) (v.1 7) (itN (oc v (v.2.1 1 (v.1 6)))).toNat := lsC_congr (fun i hi => by
        have h5 := q5 (v.1 7 + (i : Int)) (by omega) (by omega)
        rw [k.2.2 _ (by omega), k.1.oc hT h5.1 h5.2])
      rw [hl]
theorem pc_parameterValue [DecidableEq Ob] {x h : Int} {Q : Int → iST → Prop} {v : iST} {E : Sp.Env} {env : Ob → Ob} (hT : CT v) (hD : DOc v E) (hx : VN v x) (hv : (oc v x).isVar = true) (hE : EnC v h env (oc v x)) (h5 : v.1 5 = h) (hq : ∀ r, VN v r → oc v r = env (oc v x) → Q r v) : pv_2_parameterValue x Q v := by
  rcases hE with ⟨_, q2⟩ | ⟨q1, q2, q3, q4, q5, q6⟩
  · have := q2 (oc v x) (self_part _)
    rw [hv] at this; cases this
  have v1 := (hD.2.2 (v.1 6) q1 q2).2.2.1.1
  obtain ⟨z0, z1⟩ := VN.zero hT
  unfold pv_2_parameterValue
  intro a ea _ b eb _
  rw [eb]
  refine ⟨fun _ => ?_, fun z => absurd (show v.1 6 ≠ -1 by omega) z⟩
  intro c ec _
  rw [ec]
  intro _ _ d ed _
  rw [ed, ea]
  unfold pv_2_parameterValue_29
  refine pv_2_parameterValue_33_i (fun x1 x2 x4 y => x1 = x ∧ y = v ∧ VN v x4 ∧ v.1 7 ≤ x2 ∧ x2 + itN (oc v x4) = v.1 7 + itN (oc v (v.2.1 1 (v.1 6))) ∧ env (oc v x) = (Ob.lk ((Ob.toList (oc v x4)).zip (lsC v (v.2.1 22) x2 (itN (oc v x4)).toNat)) (oc v x)).getD Ob.nil) ?_ ⟨rfl, rfl, v1, Int.le_refl _, rfl, by rw [q6]⟩
  rintro x1 x2 x4 y ⟨e1, ey, v4, a1, a2, e⟩
  rw [e1, ey]
  unfold pv_2_parameterValue_33b
  refine pc_isPair hT v4 (fun r hr => ⟨fun z => hq 0 z0 ?_, fun z => ?_⟩)
  · rw [z1, e]
    have := hr.f z
    cases e9 : oc v x4 with
    | var q => rfl
    | op p q => rw [e9] at this; cases this
  obtain ⟨_, _, _, _, es⟩ := oc_sides hT v4 ((oc_isPr hT v4).mp (hr.t z))
  have es4 : oc v x4 = .pr (Ob.lft (oc v x4)) (Ob.rgt (oc v x4)) := by rw [es]; rfl
  have i4 : itN (oc v x4) = 1 + itN (Ob.rgt (oc v x4)) := by rw [es]; rfl
  have hp := itN_pos (Ob.rgt (oc v x4))
  intro k ek _
  rw [ek, h5]
  refine ⟨fun z2 => by omega, fun _ => ?_⟩
  refine pc_left hT v4 (fun l hl el => ?_)
  have inj := hT.1.inj hl.1 hl.2 hx.1 hx.2
  have elk : Ob.lk ((Ob.toList (oc v x4)).zip (lsC v (v.2.1 22) x2 (itN (oc v x4)).toNat)) (oc v x) = if oc v l = oc v x then some (oc v (v.2.1 22 x2)) else Ob.lk ((Ob.toList (Ob.rgt (oc v x4))).zip (lsC v (v.2.1 22) (x2 + 1) (itN (Ob.rgt (oc v x4))).toNat)) (oc v x) := by
    rw [i4, show (1 + itN (Ob.rgt (oc v x4))).toNat = (itN (Ob.rgt (oc v x4))).toNat + 1 by omega, lsC_cons, el]
    rw [show Ob.toList (oc v x4) = Ob.lft (oc v x4) :: Ob.toList (Ob.rgt (oc v x4)) by rw [es]; rfl]
    rfl
  refine ⟨fun hne => ?_, fun he => ?_⟩
  · intro _
    refine pc_right hT v4 (fun t ht et => ⟨rfl, rfl, ht, by omega, by rw [et]; omega, ?_⟩)
    rw [e, elk, if_neg (fun q => hne (inj.mp q)), et]
  · intro _ _ r er _
    have h5' := q5 x2 a1 (by omega)
    rw [er]
    refine hq _ h5' ?_
    rw [e, elk, if_pos (inj.mpr (Decidable.not_not.mp he))]
    rfl
/-- the innermost call ends -/
theorem pc_close [DecidableEq Ob] {r c : Int} {Q : iST → Prop} {v : iST} (hT : CT v) (h4 : v.1 4 = c + 1) (hq : ∀ w, EvK c (v.2.1 18 c) v w → w.1 4 = c → w.1 5 = v.2.1 18 c + 1 → w.2.1 22 (v.2.1 18 c) = r → w.1 6 = v.2.1 20 c → w.1 7 = v.2.1 21 c → (∀ k, k ≠ 4 → k ≠ 5 → k ≠ 6 → k ≠ 7 → w.1 k = v.1 k) → w.2.2 = v.2.2 → Q w) : pv_2_close r Q v := by
  unfold pv_2_close
  intro a ea _ _ y1 e1 b eb _ _ _ d ed _ y2 e2 e ee _ _ _ y3 e3 f ef _ _ y4 e4 g eg _ _ _ i ei _ y5 e5 j ej _ _ _ k ek _ y6 e6
  have ea' : a - 1 = c := by omega
  rw [ea'] at e1
  have eb' : b = c := by rw [eb, e1]; rfl
  rw [eb'] at ed
  have ed' : d = v.2.1 18 c := by rw [ed, e1]; rfl
  rw [ed'] at e2
  have ee' : e = v.2.1 18 c := by rw [ee, e2]; rfl
  rw [ee'] at e3
  have ef' : f = v.2.1 18 c := by rw [ef, e3, e2]; rfl
  rw [ef'] at e4
  have eg' : g = c := by rw [eg, e4, e3, e2, e1]; rfl
  rw [eg'] at ei
  have ei' : i = v.2.1 20 c := by rw [ei, e4, e3, e2, e1]; rfl
  rw [ei'] at e5
  have ej' : j = c := by rw [ej, e5, e4, e3, e2, e1]; rfl
  rw [ej'] at ek
  have ek' : k = v.2.1 21 c := by rw [ek, e5, e4, e3, e2, e1]; rfl
  rw [ek'] at e6
  have k1 : EvK c (v.2.1 18 c) v y1 := by rw [e1]; exact EvK_I hT (by decide)
  have k2 : EvK c (v.2.1 18 c) y1 y2 := by rw [e2]; exact EvK_I k1.1.1 (by decide)
  have k3 : EvK c (v.2.1 18 c) y2 y3 := by rw [e3]; exact EvK_A k2.1.1 (by decide) (fun z => absurd z (by decide)) (fun _ => Int.le_refl _)
  have k4 : EvK c (v.2.1 18 c) y3 y4 := by rw [e4]; exact EvK_I k3.1.1 (by decide)
  have k5 : EvK c (v.2.1 18 c) y4 y5 := by rw [e5]; exact EvK_I k4.1.1 (by decide)
  have k6 : EvK c (v.2.1 18 c) y5 y6 := by rw [e6]; exact EvK_I k5.1.1 (by decide)
  have kk := ((((k1.tr k2 (Int.le_refl _) (Int.le_refl _)).tr k3 (Int.le_refl _) (Int.le_refl _)).tr k4 (Int.le_refl _) (Int.le_refl _)).tr k5 (Int.le_refl _) (Int.le_refl _)).tr k6 (Int.le_refl _) (Int.le_refl _)
  refine hq y6 kk (by rw [e6, e5, e4, e3, e2, e1]; rfl) (by rw [e6, e5, e4]; rfl) (by rw [e6, e5, e4, e3]; exact if_pos rfl) (by rw [e6, e5]; rfl) (by rw [e6]; rfl) (fun n h1 h2 h3 h4 => ?_) (by rw [e6, e5, e4, e3, e2, e1]; rfl)
  rw [e6, e5, e4, e3, e2, e1]
  exact (if_neg h4).trans ((if_neg h3).trans ((if_neg h2).trans ((if_neg h2).trans (if_neg h1))))
/-- a call begins -/
theorem pc_begin [DecidableEq Ob] {x c h : Int} {Q : iST → Prop} {v : iST} (hT : CT v) (hx : VN v x) {s : Sp.Ek} {B : Int} (hS : EvSc B v s c h)
    (deep : 300 ≤ c → ∀ w, EvK c h v w → w.1 9 = 2 → (∀ k, k ≠ 9 → w.1 k = v.1 k) → Q w)
    (long : c < 300 → s.2.1 = 0 → ∀ w, EvK c h v w → w.1 9 = 5 → (∀ k, k ≠ 9 → w.1 k = v.1 k) → Q w)
    (fuel : c < 300 → s.2.1 ≠ 0 → s.1 = 0 → ∀ w, EvK c h v w → w.1 9 = 1 → w.1 32 ≠ 0 → w.1 31 = v.1 31 → w.1 30 = v.1 30 → w.1 29 = v.1 29 → Q w)
    (ok : c < 300 → s.2.1 ≠ 0 → s.1 ≠ 0 → ∀ w, EvK c h v w → EvSc B w (s.1 - 1, s.2.1 - 1, s.2.2) (c + 1) h → w.1 6 = v.1 6 → w.1 7 = v.1 7 → VN w (w.2.1 16 c) → oc w (w.2.1 16 c) = (oc v x).lft → VN w (w.2.1 17 c) → oc w (w.2.1 17 c) = (oc v x).rgt → w.2.1 18 c = h → w.2.1 19 c = 0 → w.2.1 20 c = v.1 6 → w.2.1 21 c = v.1 7 → Q w) : pv_2_begin x Q v := by
  obtain ⟨s4, s5, s9, s32, s8, s31, s29⟩ := hS
  unfold pv_2_begin
  intro a ea _
  rw [ea, s4]
  refine ⟨fun hc => ?_, fun hc => ?_⟩
  rotate_left
  · intro w ew
    exact deep (by omega) w (by rw [ew]; exact EvK_I hT (by decide)) (by rw [ew]; rfl) (fun k hk => by rw [ew]; exact if_neg hk)
  intro b eb _
  rw [eb, s8]
  refine ⟨fun hb => ?_, fun hb => ?_⟩
  rotate_left
  · intro w ew
    exact long hc (by omega) w (by rw [ew]; exact EvK_I hT (by decide)) (by rw [ew]; rfl) (fun k hk => by rw [ew]; exact if_neg hk)
  have hb' : s.2.1 ≠ 0 := by omega
  have hst : StC v (s.1, s.2.2) := s31
  refine pc_step hT hst (fun y gy y32 s0 _ hs => ⟨fun _ => ?_, fun z => absurd (by decide) z⟩) (fun y gy y32 s0 _ hs => ⟨fun z => absurd rfl z, fun _ => ?_⟩)
  rotate_left
  · intro w ew
    have k1 : EvK c h v y := EvK_S gy
    have k2 : EvK c h y w := by rw [ew]; exact EvK_I gy.1 (by decide)
    have e30 := gy.2.2.1 30 (by decide)
    have hs : y.1 31 + (s.1 : Int) = y.1 30 := hs
    exact fuel hc hb' s0 w (k1.tr k2 (Int.le_refl _) (Int.le_refl _)) (by rw [ew]; rfl) (by rw [ew]; exact y32) (by rw [ew]; show y.1 31 = _; omega) (by rw [ew]; exact e30) (by rw [ew]; exact gy.2.2.1 29 (by decide))
  have k0 : EvK c h v y := EvK_S gy
  have yr : y.2.1 = v.2.1 := funext (fun k => gy.2.2.2 k rfl)
  have yn : ∀ k, k ≠ 31 → k ≠ 32 → y.1 k = v.1 k := fun k h1 h2 => gy.2.2.1 k (by unfold f8S; exact decide_eq_false (by omega))
  intro d ed _ _ y1 e1 e ee _
  have k1 : EvK c h y y1 := by rw [e1]; exact EvK_I gy.1 (by decide)
  have ee' : e = c := by rw [ee, e1]; show y.1 4 = c; rw [yn 4 (by decide) (by decide)]; exact s4
  rw [ee']
  have hx1 := (hx.up k0.1).up k1.1
  refine pc_left k1.1.1 hx1 (fun l hl el => ?_)
  intro _ _ y2 e2 f ef _
  have k2 : EvK c h y1 y2 := by rw [e2]; exact EvK_A k1.1.1 (by decide) (fun _ => Int.le_refl _) (fun z => by cases z)
  have ef' : f = c := by rw [ef, e2, ← ee', ee]; rfl
  rw [ef']
  have hx2 := hx1.up k2.1
  refine pc_right k2.1.1 hx2 (fun t ht et => ?_)
  intro _ _ y3 e3 g eg _ g2 eg2 _ _ _ y4 e4 i ei _ _ _ _ y5 e5 j ej _ j2 ej2 _ _ _ y6 e6 m em _ m2 em2 _ _ _ y7 e7 n en _ _ y8 e8
  have n4 : y1.1 4 = c := by rw [e1]; show y.1 4 = c; rw [yn 4 (by decide) (by decide)]; exact s4
  have q5 : y1.1 5 = h := by rw [e1]; show y.1 5 = h; rw [yn 5 (by decide) (by decide)]; exact s5
  have q6 : y1.1 6 = v.1 6 := by rw [e1]; show y.1 6 = _; exact yn 6 (by decide) (by decide)
  have q7 : y1.1 7 = v.1 7 := by rw [e1]; show y.1 7 = _; exact yn 7 (by decide) (by decide)
  have eg' : g = c := by rw [eg, e3, e2]; exact n4
  have eg2' : g2 = h := by rw [eg2, e3, e2]; exact q5
  have ei' : i = c := by rw [ei, e4, e3, e2]; exact n4
  have ej' : j = c := by rw [ej, e5, e4, e3, e2]; exact n4
  have ej2' : j2 = v.1 6 := by rw [ej2, e5, e4, e3, e2]; exact q6
  have em' : m = c := by rw [em, e6, e5, e4, e3, e2]; exact n4
  have em2' : m2 = v.1 7 := by rw [em2, e6, e5, e4, e3, e2]; exact q7
  have en' : n = c := by rw [en, e7, e6, e5, e4, e3, e2]; exact n4
  rw [eg', eg2'] at e4
  rw [ei'] at e5
  rw [ej', ej2'] at e6
  rw [em', em2'] at e7
  rw [en'] at e8
  have k3 : EvK c h y2 y3 := by rw [e3]; exact EvK_A k2.1.1 (by decide) (fun _ => Int.le_refl _) (fun z => by cases z)
  have k4 : EvK c h y3 y4 := by rw [e4]; exact EvK_A k3.1.1 (by decide) (fun _ => Int.le_refl _) (fun z => by cases z)
  have k5 : EvK c h y4 y5 := by rw [e5]; exact EvK_A k4.1.1 (by decide) (fun _ => Int.le_refl _) (fun z => by cases z)
  have k6 : EvK c h y5 y6 := by rw [e6]; exact EvK_A k5.1.1 (by decide) (fun _ => Int.le_refl _) (fun z => by cases z)
  have k7 : EvK c h y6 y7 := by rw [e7]; exact EvK_A k6.1.1 (by decide) (fun _ => Int.le_refl _) (fun z => by cases z)
  have k8 : EvK c h y7 y8 := by rw [e8]; exact EvK_I k7.1.1 (by decide)
  have k38 := ((((k3.tr k4 (Int.le_refl _) (Int.le_refl _)).tr k5 (Int.le_refl _) (Int.le_refl _)).tr k6 (Int.le_refl _) (Int.le_refl _)).tr k7 (Int.le_refl _) (Int.le_refl _)).tr k8 (Int.le_refl _) (Int.le_refl _)
  have k28 := k2.tr k38 (Int.le_refl _) (Int.le_refl _)
  have kk := (k0.tr k1 (Int.le_refl _) (Int.le_refl _)).tr k28 (Int.le_refl _) (Int.le_refl _)
  have d8 : d = (s.2.1 : Int) := by rw [ed, yn 8 (by decide) (by decide)]; exact s8
  have n8 : y1.1 8 = ((s.2.1 - 1 : Nat) : Int) := by rw [e1]; show d - 1 = _; omega
  have nn : ∀ k, k ≠ 4 → k ≠ 8 → y8.1 k = y.1 k := fun k h1 h2 => by
    rw [e8, e7, e6, e5, e4, e3, e2, e1]
    exact (if_neg h1).trans (if_neg h2)
  have p16 : y8.2.1 16 c = l := by rw [e8, e7, e6, e5, e4, e3, e2]; exact if_pos rfl
  have p17 : y8.2.1 17 c = t := by rw [e8, e7, e6, e5, e4, e3]; exact if_pos rfl
  have p18 : y8.2.1 18 c = h := by rw [e8, e7, e6, e5, e4]; exact if_pos rfl
  have p19 : y8.2.1 19 c = 0 := by rw [e8, e7, e6, e5]; exact if_pos rfl
  have p20 : y8.2.1 20 c = v.1 6 := by rw [e8, e7, e6]; exact if_pos rfl
  have p21 : y8.2.1 21 c = v.1 7 := by rw [e8, e7]; exact if_pos rfl
  have hs : y.1 31 + ((s.1 - 1 : Nat) : Int) = y.1 30 := hs
  have ex1 : oc y1 x = oc v x := by rw [k1.1.oc gy.1 (hx.up k0.1).1 (hx.up k0.1).2, k0.1.oc hT hx.1 hx.2]
  have ex2 : oc y2 x = oc v x := by rw [k2.1.oc k1.1.1 hx1.1 hx1.2]; exact ex1
  refine ok hc hb' s0 y8 kk ⟨by rw [e8]; rfl, ?_, ?_, ?_, ?_, ?_, ?_⟩ ?_ ?_ ?_ ?_ ?_ ?_ p18 p19 p20 p21
  · rw [nn 5 (by decide) (by decide), yn 5 (by decide) (by decide)]; exact s5
  · rw [nn 9 (by decide) (by decide), yn 9 (by decide) (by decide)]; exact s9
  · rw [nn 32 (by decide) (by decide), y32]; exact s32
  · rw [e8, e7, e6, e5, e4, e3, e2]; exact n8
  · rw [nn 31 (by decide) (by decide), nn 30 (by decide) (by decide)]; exact hs
  · rw [nn 29 (by decide) (by decide), yn 29 (by decide) (by decide)]; exact s29
  · rw [nn 6 (by decide) (by decide), yn 6 (by decide) (by decide)]
  · rw [nn 7 (by decide) (by decide), yn 7 (by decide) (by decide)]
  · rw [p16]; exact hl.up k28.1
  · rw [p16, k28.1.oc k1.1.1 hl.1 hl.2, el, ex1]
  · rw [p17]; exact ht.up k38.1
  · rw [p17, k38.1.oc k2.1.1 ht.1 ht.2, et, ex2]
