-- deps: 722
/-! the class: a term without variables is evaluated -/
theorem pc_evaluated [DecidableEq Ob] {x n B : Int} {Q : Int → iST → Prop} {u : iST} {E : Sp.Env} {env : Ob → Ob} {s : Sp.Ek} (hT : CT u) (hD : DOc u E) (hW : Sp.DWf E) (h6 : ∀ f, Sp.arOf E f ≤ 6) (hx : VN u x) (hw : Ob.wt (Sp.arOf E) (oc u x)) (hv : ∀ y, y ∈ Ob.parts (oc u x) → Ob.isVar y = false) (h32 : u.1 32 = 0) (hn : n = (s.2.1 : Int)) (h31 : u.1 31 + (s.1 : Int) = u.1 30) (h29 : u.1 29 ≤ B + (s.2.2 : Int)) (hs : 16 * (s.1 : Int) + 20 ≤ 900000) (fit : FitE B (Sp.ev E 300 env (oc u x) s))
    (ok : ∀ r w s', Sp.ev E 300 env (oc u x) s = .ok (oc w r) s' → CG f8En f8Er u w → VN w r → w.1 9 = 0 → w.1 32 = 0 → w.1 31 + (s'.1 : Int) = w.1 30 → w.1 29 ≤ B + (s'.2.2 : Int) → Q r w)
    (bad : EvBd B Q (Sp.ev E 300 env (oc u x) s) u) : pv_2_evaluated x n Q u := by
  unfold pv_2_evaluated
  intro y1 e1 y2 e2 y3 e3 y4 e4 y5 e5 y6 e6
  have g1 : CG f8En f8Er u y1 := by rw [e1]; exact CG_I hT (by decide) (by decide)
  have g2 : CG f8En f8Er y1 y2 := by rw [e2]; exact CG_I g1.1 (by decide) (by decide)
  have g3 : CG f8En f8Er y2 y3 := by rw [e3]; exact CG_I g2.1 (by decide) (by decide)
  have g4 : CG f8En f8Er y3 y4 := by rw [e4]; exact CG_I g3.1 (by decide) (by decide)
  have g5 : CG f8En f8Er y4 y5 := by rw [e5]; exact CG_I g4.1 (by decide) (by decide)
  have g6 : CG f8En f8Er y5 y6 := by rw [e6]; exact CG_I g5.1 (by decide) (by decide)
  have g := ((((g1.tr g2).tr g3).tr g4).tr g5).tr g6
  have n4 : y6.1 4 = 0 := by rw [e6, e5, e4, e3, e2, e1]; rfl
  have n5 : y6.1 5 = 0 := by rw [e6, e5, e4, e3, e2]; rfl
  have n6 : y6.1 6 = -1 := by rw [e6, e5, e4, e3]; rfl
  have n8 : y6.1 8 = n := by rw [e6, e5]; rfl
  have n9 : y6.1 9 = 0 := by rw [e6]; rfl
  have nn : ∀ k, 10 ≤ k → y6.1 k = u.1 k := fun k hk => by
    rw [e6, e5, e4, e3, e2, e1]
    exact (if_neg (by omega)).trans ((if_neg (by omega)).trans ((if_neg (by omega)).trans ((if_neg (by omega)).trans ((if_neg (by omega)).trans (if_neg (by omega))))))
  have ec : ∀ k, oc y6 k = oc u k := oc_same (by rw [e6, e5, e4, e3, e2, e1]; rfl)
  refine evc_go (B := B) hT hD hW h6 300 env 0 0 x 0 y6 s g ⟨n4, n5, n9, by rw [nn 32 (by decide)]; exact h32, by rw [n8, hn], by rw [nn 31 (by decide), nn 30 (by decide)]; exact h31, by rw [nn 29 (by decide)]; exact h29⟩ (by decide) (by decide) (by decide) (hx.up g) (by rw [ec]; exact hw) (by rw [ec]; exact Or.inl ⟨n6, hv⟩) (by decide) (by omega) (by rw [ec]; exact fit) ?_ (by rw [ec]; exact bad.of g (fun _ _ h => h))
  intro w t s' hev k hS w6 w7 vr t0 t1
  rw [ec] at hev
  obtain ⟨s4, s5, s9, s32, s8, s31, s29⟩ := hS
  refine fo_v_2_evaluated_35 ?_
  unfold pv_2_evaluated_35b
  refine ⟨fun z => by omega, fun _ => ?_⟩
  intro a ea _
  rw [ea]
  refine ⟨fun z => absurd s9 z, fun _ => ⟨fun _ => ?_, fun z => absurd rfl z⟩⟩
  intro b eb _
  rw [eb]
  refine ⟨fun z => absurd s4 z, fun _ => ?_⟩
  intro _ _ d ed _
  rw [ed]
  exact ok _ w s' hev (g.tr k.1) vr s9 s32 s31 s29
