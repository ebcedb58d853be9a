-- deps: 79998693
/-! the replay, the class: all notes are asked again -/
theorem NzL.drop [DecidableEq Ob] {E : Sp.Env} {v : iST} {a : Int} {t : List Sz.Nt} (h : NzL E v a t) (n : Nat) : NzL E v (a + (n : Int)) (t.drop n) := fun i hi => by
  rw [List.length_drop] at hi
  obtain ⟨p, q⟩ := h (n + i) (by omega)
  have e : a + ((n + i : Nat) : Int) = a + (n : Int) + (i : Int) := by omega
  rw [e] at p q
  exact ⟨p, by rw [List.getElem?_drop]; exact q⟩
theorem row_inj [DecidableEq Ob] {c d : List Ob} (h : Sz.row c = Sz.row d) : c = d := by
  have h := congrArg Ob.toList h
  unfold Sz.row at h
  rw [Ob.toList_ofList, Ob.toList_ofList] at h
  have := congrArg List.reverse h
  rw [List.reverse_reverse, List.reverse_reverse] at this
  exact this
def f8Dz (k : Nat) : Bool := f8Yz k || decide (k = 27)
theorem f8Y_D [DecidableEq Ob] : ∀ k, f8Dz k = false → f8Yz k = false := fun k h => by unfold f8Dz at h; rw [Bool.or_eq_false_iff] at h; exact h.1
theorem DOz.monoD [DecidableEq Ob] {u v : iST} {E : Sp.Env} (h : EnvZ u E) (hT : CT u) (g : CG f8Dz f8Jr u v) : EnvZ v E := by
  obtain ⟨h1, h2, h3, h4⟩ := h
  have n : ∀ k, (k ≤ 3 ∨ k = 25) → v.1 k = u.1 k := fun k hk => g.2.2.1 k (by unfold f8Dz f8Yz f8Jn; simp only [Bool.or_eq_false_iff, decide_eq_false_iff_not]; omega)
  have r : ∀ k, (k ≤ 15 ∨ k = 50) → v.2.1 k = u.2.1 k := fun k hk => g.2.2.2 k (by unfold f8Jr; simp only [Bool.or_eq_false_iff, decide_eq_false_iff_not]; omega)
  exact ⟨h1.mono hT g (n 0 (by omega)) (fun k hk => r k (by omega)), h2, h3, h4.mono hT g (n 1 (by omega)) (n 25 (by omega)) (fun k h1 h2 => r k (by omega)) (r 50 (by omega))⟩
theorem pc_holds [DecidableEq Ob] {Q : Int → iST → Prop} {v : iST} {E : Sp.Env} (hT : CT v) (hE : EnvZ v E) (h32 : v.1 32 = 0) (h30 : v.1 30 = 1000000) (h31 : v.1 31 = 0) (hG : NtG E v)
    (hq : ∀ w, CG f8Dz f8Jr v w → w.1 32 = 0 → w.1 29 = v.1 29 → w.1 27 = 0 → w.1 28 = 0 → w.1 26 = v.1 26 → (∀ i, i < 5 * v.1 26 → w.2.1 52 i = v.2.1 52 i) → Q 1 w) : pv_6_doNotesHold Q v := by
  obtain ⟨t, hN, hl, hO⟩ := hG
  unfold pv_6_doNotesHold
  intro _ v1 e1
  have g1 : CG f8Dz f8Jr v v1 := by rw [e1]; exact CG_I hT (by decide) (by decide)
  have n1 : ∀ k, k ≠ 27 → v1.1 k = v.1 k := fun k hk => by rw [e1]; exact if_neg hk
  have v127 : v1.1 27 = 1 := by rw [e1]; rfl
  have v12 : v1.2 = v.2 := by rw [e1]; rfl
  refine pv_6_doNotesHold_9_i (fun x1 x2 y => x1 = 1 ∧ ∃ k : Nat, x2 = (k : Int) ∧ (k : Int) ≤ v.1 26 ∧ CG f8Dz f8Jr v y ∧ (y.1 32 = 0 ∧ y.1 29 = v.1 29 ∧ y.1 27 = 1 ∧ y.1 26 = v.1 26) ∧ (∃ f : Nat, StS y (f, 0) ∧ 1000000 ≤ f + 999 * k) ∧ ∀ i, i < 5 * v.1 26 → y.2.1 52 i = v.2.1 52 i) ?_ ⟨rfl, 0, rfl, by omega, g1, ⟨by rw [n1 32 (by decide)]; exact h32, n1 29 (by decide), v127, n1 26 (by decide)⟩, ⟨1000000, ?_, by omega⟩, fun i _ => by rw [v12]⟩
  rotate_left
  · show 0 ≤ v1.1 31 ∧ v1.1 31 + ((1000000 : Nat) : Int) = v1.1 30
    rw [n1 31 (by decide), n1 30 (by decide), h31, h30]
    decide
  rintro x1 x2 y ⟨b1, k, b2, hk, gy, ⟨y32, y29, y27, y26⟩, ⟨f, hf, hf2⟩, y52⟩
  rw [b1, b2]
  have hTy := gy.1
  unfold pv_6_doNotesHold_9b
  intro m1 em1 _
  rw [em1, y26]
  refine ⟨fun _ => ?_, fun hlt => ⟨(fun z => by cases z), fun _ => ?_⟩⟩
  · unfold pv_6_doNotesHold_90
    intro _ z1 ez1 z2 ez2 _
    have g2 : CG f8Dz f8Jr y z1 := by rw [ez1]; exact CG_I hTy (by decide) (by decide)
    have g3 : CG f8Dz f8Jr z1 z2 := by rw [ez2]; exact CG_I g2.1 (by decide) (by decide)
    have zn : ∀ k, k ≠ 27 → k ≠ 28 → z2.1 k = y.1 k := fun k h1 h2 => by rw [ez2, iIc_ne _ _ h2, ez1, iIc_ne _ _ h1]
    exact hq z2 (gy.tr (g2.tr g3)) (by rw [zn 32 (by decide) (by decide)]; exact y32) (by rw [zn 29 (by decide) (by decide)]; exact y29) (by rw [ez2, iIc_ne _ _ (by decide), ez1, iIc_at]) (by rw [ez2, iIc_at]) (by rw [zn 26 (by decide) (by decide)]; exact y26) (fun i hi => by rw [ez2, ez1]; exact y52 i hi)
  intro _ z ez _ _ _ _ v5 e5 _ _ _ v6 e6 _ _ _ v7 e7 _
  have gz : CG f8Yz f8Jr y z := by rw [ez]; exact CG_I hTy (by decide) (by decide)
  have gvz : CG f8Dz f8Jr v z := gy.tr (gz.mono f8Y_D (fun _ q => q))
  have zn : ∀ k, k ≠ 28 → z.1 k = y.1 k := fun k hk => by rw [ez]; exact iIc_ne _ _ hk
  have z28 : z.1 28 = (k : Int) + 1 := by rw [ez, iIc_at]
  have z52 : z.2.1 52 = y.2.1 52 := by rw [ez]; rfl
  have z26 : z.1 26 = v.1 26 := by rw [zn 26 (by decide)]; exact y26
  have hkt : k < t.length := by omega
  have hNz : NzL E z 0 t := hN.up hT gvz (by omega) (fun i _ hi => by rw [z52]; exact y52 i (by omega))
  obtain ⟨q1, q2⟩ := hNz k hkt
  rw [show (0 : Int) + (k : Int) = (k : Int) by omega] at q1 q2
  have q2 : t[k] = ntC z (k : Int) := by
    rw [List.getElem?_eq_getElem hkt] at q2
    exact Option.some.inj q2
  obtain ⟨⟨ctx, cx⟩, m0, m3, hg, l1, l2⟩ := q1
  obtain ⟨ctx', ec, hRun⟩ := hO [] k hkt
  rw [q2] at ec hRun
  have ec : Sz.row ctx' = oc z (z.2.1 52 (5 * (k : Int) + 2)) := ec
  have ectx : ctx' = ctx := row_inj (by rw [ec, cx.2.1]; rfl)
  rw [ectx] at hRun
  rw [List.append_nil] at hRun
  obtain ⟨y0, s', r1, r2, r3, r4, r5⟩ := hRun (f, (0, []), t.drop (k + 1)) (by show 1000 ≤ f; omega) rfl
  rw [e5, e6, e7]
  have r1 : Sz.rwStep E Sz.rc ctx (oc z (z.2.1 52 (5 * (k : Int) + 0))) (decide (z.2.1 52 (5 * (k : Int) + 1) = 1)) (f, (0, []), t.drop (k + 1)) = .ok y0 s' := r1
  have r2 : Sp.fin (decide (z.2.1 52 (5 * (k : Int) + 1) = 1)) y0 = oc z (z.2.1 52 (5 * (k : Int) + 3)) := r2
  have r3 : s'.2.2 = (t.drop (k + 1)).drop (z.2.1 52 (5 * (k : Int) + 4) - (k : Int) - 1).toNat := r3
  have r5 : f ≤ s'.1 + 999 := r5
  have hA : AlL (ExT v) s'.2.1 := fun o ho => (r4 o ho).resolve_left (fun q => by cases q)
  have hNd : NzL E z (z.1 28) (t.drop (k + 1)) := by
    have := hNz.drop (k + 1)
    rw [show (0 : Int) + ((k + 1 : Nat) : Int) = z.1 28 by rw [z28]; omega] at this
    exact this
  have hfz : StS z (f, 0) := by
    have h0 : 0 ≤ y.1 31 ∧ y.1 31 + (f : Int) = y.1 30 := hf
    show 0 ≤ z.1 31 ∧ z.1 31 + (f : Int) = z.1 30
    rw [zn 31 (by decide), zn 30 (by decide)]
    exact h0
  refine pc_replayed (X := ExT v) (k := f) (t := t.drop (k + 1)) gz.1 (DOz.monoD hE hT gvz) (by rw [zn 27 (by decide)]; exact y27) (by rw [zn 32 (by decide)]; exact y32) hfz (fun o ho => ho.up hT gvz) hg m0 cx (by omega) ⟨by rw [List.length_drop, z28, z26]; omega, by rw [z26]; exact hl.2⟩ hNd r1 hA r5 (fun a w gw na ea w32 w29 wst w28 w26 w52 => ?_)
  have z26' : z.1 26 = y.1 26 := zn 26 (by decide)
  have wz : ∀ j, 0 ≤ j → j < 5 → w.2.1 52 (5 * (k : Int) + j) = z.2.1 52 (5 * (k : Int) + j) := fun j j0 j1 => w52 _ (by rw [z26]; omega)
  intro n9 en9 _
  rw [en9]
  refine ⟨fun q => absurd w32 q, fun _ => ?_⟩
  intro _ _ n11 en11 _
  rw [en11, wz 3 (by decide) (by decide)]
  have ea2 : a = z.2.1 52 (5 * (k : Int) + 3) := by
    obtain ⟨m3w, o3w⟩ := m3.up gz.1 gw
    exact (gw.1.1.inj na.1.1 na.1.2 m3w.1.1 m3w.1.2).mp (by rw [ea, r2, o3w])
  refine ⟨fun q => absurd ea2 q, fun _ => ?_⟩
  intro n13 en13 _ _ _ n14 en14 _
  rw [en13, en14, wz 4 (by decide) (by decide)]
  have e28 : w.1 28 = z.2.1 52 (5 * (k : Int) + 4) := by
    rw [r3, List.length_drop, List.length_drop] at w28
    omega
  refine ⟨fun q => absurd e28 q, fun _ _ => ?_⟩
  refine ⟨rfl, k + 1, by omega, by omega, gvz.tr (gw.mono f8Y_D (fun _ q => q)), ⟨w32, by rw [w29, zn 29 (by decide)]; exact y29, by rw [gw.2.2.1 27 (by decide), zn 27 (by decide)]; exact y27, by rw [w26]; exact z26⟩, ⟨s'.1, wst, by omega⟩, fun i hi => ?_⟩
  rw [w52 i (by rw [z26]; exact hi), z52]
  exact y52 i hi
