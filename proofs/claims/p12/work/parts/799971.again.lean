-- deps: 79997, 7588, zhold
/-! recheck: what was PROVED is proved again, and nothing is made -/
theorem pc_again [DecidableEq Ob] {u : iST} {Q : Int → iST → Prop} (hT : CT u) (hN : u.1 50 ≠ 0 → NgI u ∧ u.1 15 = 0) (hq0 : u.1 50 = 0 → Q 0 u) (hq : ∀ v, u.1 50 ≠ 0 → NgI v → v.1 15 = 0 → v.1 50 = u.1 50 → v.1 29 = u.1 29 → Q 1 v) : pv_11_recheck Q u := by
  unfold pv_11_recheck
  intro v1 e1 _
  rw [e1]
  refine ⟨fun h50 => ?_, fun h50 _ => hq0 (Decidable.not_not.mp h50)⟩
  obtain ⟨ng, h15⟩ := hN h50
  unfold pv_7_begin
  intro y1 ey1 y2 ey2 y ey
  have a2 : y.2 = u.2 := by rw [ey, ey2, ey1]; rfl
  have as : ∀ k, k ≠ 30 → k ≠ 31 → k ≠ 32 → y.1 k = u.1 k := fun k h1 h2 h3 => by rw [ey, iIc_ne _ _ h3, ey2, iIc_ne _ _ h2, ey1, iIc_ne _ _ h1]
  have a30 : y.1 30 = 1000000 := by rw [ey, iIc_ne _ _ (by decide), ey2, iIc_ne _ _ (by decide), ey1, iIc_at]
  have a31 : y.1 31 = 0 := by rw [ey, iIc_ne _ _ (by decide), ey2, iIc_at]
  have a32 : y.1 32 = 0 := by rw [ey, iIc_at]
  have a29 : y.1 29 = u.1 29 := as 29 (by decide) (by decide) (by decide)
  obtain ⟨aT, aE⟩ := CT_same (v := y) hT a29 (fun k _ _ => by rw [a2]) (by rw [a2])
  have ngy : NgI y := ng.keepS hT aT aE (as 13 (by decide) (by decide) (by decide)) (as 26 (by decide) (by decide) (by decide)) (fun k _ => by rw [a2]) ⟨as 0 (by decide) (by decide) (by decide), as 1 (by decide) (by decide) (by decide), as 25 (by decide) (by decide) (by decide)⟩
  obtain ⟨E, m, gs, tr, hG, hP, hNt, hNG, hE⟩ := ngy
  refine pc_holds aT hE a32 a30 a31 hNG (fun w gw w32 w29 w27 w28 w26 w52 => ?_)
  have hGw : GivC w E 0 gs := GivC.ot aT gw (OtC.of (P := fun _ => True) (fun k a b => gw.2.2.2 k (by unfold f8Jr; simp only [Bool.or_eq_false_iff, decide_eq_false_iff_not]; omega))) (gw.2.2.1 13 (by decide)) (fun _ _ => trivial) gs 0 hG
  have hPw : PvT (ExT w) m gs tr := PvT.mono (fun o ho => ho.up aT gw) _ _ _ hP
  have hNw : NtL E w 0 tr (w.1 26) := by rw [w26]; exact NtL.keep aT gw tr _ _ hNt w52
  have hEw : EnvZ w E := DOz.monoD hE aT gw
  have hNGw : NtG E w := hNG.keep aT gw w26 w52
  refine pc_proveX gw.1 hGw hPw w32 w28 hNw (fun z gz z15 zk zz => ?_)
  obtain ⟨k13, k26, k52, ko⟩ := zk
  obtain ⟨z32, z29, z28, z16⟩ := zz
  have ngz : NgI z := by
    refine ⟨E, m, gs, tr, GivC.ot gw.1 gz ko k13 (fun j hj => hj) gs 0 hGw, PvT.mono (fun o ho => ho.up gw.1 gz) _ _ _ hPw, ?_, hNGw.keep gw.1 gz k26 (fun i _ => by rw [k52]), hEw.same gw.1 gz.1 gz.2.1 ⟨gz.2.2.1 0 (by decide), gz.2.2.1 1 (by decide), gz.2.2.1 25 (by decide)⟩ (fun k hk => gz.2.2.2 k (by unfold f8Pr f8Jr f8C; simp only [Bool.or_eq_false_iff, decide_eq_false_iff_not]; omega))⟩
    rw [k26]
    exact NtL.keep gw.1 gz tr _ _ hNw (fun i _ => by rw [k52])
  have fin : Q 1 z := hq z h50 ngz z15 (by rw [gz.2.2.1 50 (by decide), gw.2.2.1 50 (by decide)]; exact as 50 (by decide) (by decide) (by decide)) (by rw [z29, w29]; exact a29)
  have R5 : br ((1 : Int) = 0) (ztp 0 (Q 0 z)) (ztp 1 (Q 1 z)) := ⟨fun q => absurd q (by decide), fun _ _ => fin⟩
  refine ⟨fun q => absurd q (by decide), fun _ => ?_⟩
  unfold pv_4_isAllProved
  intro n1 en1 _
  rw [en1]
  refine ⟨fun q => absurd z32 q, fun _ => ?_⟩
  intro n2 en2 _
  rw [en2]
  refine ⟨fun q => absurd z15 q, fun _ => ?_⟩
  intro n3 en3 _
  refine ⟨fun _ _ => R5, fun _ => ?_⟩
  unfold pv_6_isAllRecalled
  intro n4 en4 _ n5 en5 _
  rw [en4, en5]
  exact ⟨fun q => absurd z28 q, fun _ _ => ⟨fun q => absurd q (by decide), fun _ _ => R5⟩⟩
