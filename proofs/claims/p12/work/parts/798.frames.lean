-- deps: 797
/-! the class: what telling leaves, whatever is told -/
def WrF [DecidableEq Ob] (u v : iST) : Prop := v.1 = u.1 ∧ v.2.2 = u.2.2 ∧ ∀ k, f8L k = false → v.2.1 k = u.2.1 k
theorem WrF.rf [DecidableEq Ob] (u : iST) : WrF u u := ⟨rfl, rfl, fun _ _ => rfl⟩
theorem WrF.tr [DecidableEq Ob] {u v w : iST} (h : WrF u v) (g : WrF v w) : WrF u w := ⟨g.1.trans h.1, g.2.1.trans h.2.1, fun k hk => (g.2.2 k hk).trans (h.2.2 k hk)⟩
theorem WrF_A [DecidableEq Ob] {u : iST} {k : Nat} {i x : Int} (h : f8L k = true) : WrF u (iA u k i x) := ⟨rfl, rfl, fun j hj => iAc_ne u i x (fun e => by rw [e, h] at hj; cases hj)⟩
theorem WrF.cg [DecidableEq Ob] {u v : iST} (h : WrF u v) (hT : CT u) : CG f80 f8L u v := by
  have q := CT_same hT (show v.1 29 = u.1 29 by rw [h.1]) (fun k h1 h2 => h.2.2 k (by unfold f8L; exact decide_eq_false (by omega))) h.2.1
  exact ⟨q.1, q.2, fun k _ => by rw [h.1], h.2.2⟩
theorem pf_left [DecidableEq Ob] {k : Int} {Q : Int → iST → Prop} {u : iST} (hq : ∀ r, Q r u) : pv_7_left k Q u := by
  unfold pv_7_left
  refine ⟨fun _ => hq 0, fun _ => ?_⟩
  intro v1 _ _
  refine ⟨fun _ => hq 0, fun _ => ?_⟩
  intro _ _ v2 _ _
  refine ⟨fun _ => hq 0, fun _ => ?_⟩
  intro _ _ v3 _ _ v4 _ _ v5 _ _ v6 _ _
  exact hq v6
theorem pf_right [DecidableEq Ob] {k : Int} {Q : Int → iST → Prop} {u : iST} (hq : ∀ r, Q r u) : pv_7_right k Q u := by
  unfold pv_7_right
  refine ⟨fun _ => hq 0, fun _ => ?_⟩
  intro v1 _ _
  refine ⟨fun _ => hq 0, fun _ => ?_⟩
  intro _ _ v2 _ _
  refine ⟨fun _ => hq 0, fun _ => ?_⟩
  intro _ _ v3 _ _ v4 _ _ v5 _ _
  exact hq v5
theorem pf_isPair [DecidableEq Ob] {k : Int} {Q : Int → iST → Prop} {u : iST} (hq : ∀ r, Q r u) : pv_7_isPair k Q u := by
  unfold pv_7_isPair
  refine ⟨fun _ _ => hq 0, fun _ => ?_⟩
  intro v1 _ _
  refine ⟨fun _ _ => hq 0, fun _ => ?_⟩
  intro _ _ v2 _ _
  exact ⟨fun _ _ => hq 0, fun _ _ => hq 1⟩
theorem pf_cellOf [DecidableEq Ob] {k : Int} {Q : Int → iST → Prop} {u : iST} (hq : ∀ r, Q r u) : pv_7_cellOf k Q u := by
  unfold pv_7_cellOf
  refine ⟨fun _ => hq _, fun _ => ?_⟩
  intro v1 _ _
  refine ⟨fun _ => hq _, fun _ => ?_⟩
  intro _ _ v2 _ _
  exact hq v2
theorem pf_isQuoted [DecidableEq Ob] {k : Int} {Q : Int → iST → Prop} {u : iST} (hq : ∀ r, Q r u) : pv_7_isQuoted k Q u := by
  unfold pv_7_isQuoted
  refine ⟨fun _ _ => hq 0, fun _ => ?_⟩
  intro v1 _ _
  refine ⟨fun _ _ => hq 0, fun _ => ?_⟩
  intro _ _ v2 _ _
  refine ⟨fun _ _ => hq 0, fun _ => ?_⟩
  intro _ _ v3 _ _ v4 _ _ v5 _ _ v6 _ _
  refine ⟨fun _ => ?_, fun _ _ => hq 0⟩
  intro _ _ v7 _ _ v8 _ _ v9 _ _ _ _ v10 _ _
  refine ⟨fun _ _ => hq 0, fun _ => ?_⟩
  intro v11 _ _ v12 _ _
  exact ⟨fun _ _ => hq 0, fun _ _ => hq 1⟩
theorem pf_put [DecidableEq Ob] {th c : Int} {Q : iST → Prop} {u : iST} (hq : ∀ v, WrF u v → Q v) : pv_9_put th c Q u := by
  unfold pv_9_put
  intro a _ _
  refine ⟨fun _ => hq u (WrF.rf u), fun _ => ?_⟩
  intro b _ _ _ _ _ w1 e1 d _ _ _ w2 e2
  refine hq w2 ?_
  have g1 : WrF u w1 := by rw [e1]; exact WrF_A (by decide)
  have g2 : WrF w1 w2 := by rw [e2]; exact WrF_A (by decide)
  exact g1.tr g2
theorem pf_putAtom [DecidableEq Ob] {th c : Int} {Q : iST → Prop} {u : iST} (hq : ∀ v, WrF u v → Q v) : pv_9_putAtom th c Q u := by
  have e25 : ∀ x3 y0 : Int, 0 < y0 → pv_9_putAtom_25 Q th c x3 y0 u := by
    intro x3 y0 hy
    unfold pv_9_putAtom_25
    intro v1 _ _
    refine ⟨hy, ?_⟩
    refine pv_9_putAtom_45_i (fun _ _ x4 _ _ _ y => 0 < x4 ∧ WrF u y) ?_ ⟨hy, WrF.rf u⟩
    rintro x0 x3 x4 x5 x7 x8 y ⟨h4, g⟩
    unfold pv_9_putAtom_45b
    refine ⟨fun _ => ?_, fun _ => ?_⟩
    · intro _
      refine pv_9_putAtom_72_i (fun _ _ x4 _ _ _ y => 0 < x4 ∧ WrF u y) ?_ ⟨h4, g⟩
      rintro x0 x3 x4 x5 x7 x8 y ⟨h4, g⟩
      unfold pv_9_putAtom_72b
      refine ⟨fun _ => ?_, fun _ => ?_⟩
      · intro v5 _ _ _ v7 _ _ w ew
        refine hq w (g.tr ?_)
        rw [ew]
        exact WrF_A (by decide)
      · refine ⟨h4, ?_⟩
        intro v10 _ _
        refine ⟨h4, ?_⟩
        intro v13 _ _ _
        refine ⟨fun _ _ => ⟨h4, g⟩, fun _ => ?_⟩
        intro v16 _ _ _
        refine ⟨fun _ => ?_, fun _ => ?_⟩
        · intro _ _ v18 _ _ _ _ w ew _
          refine ⟨h4, g.tr ?_⟩
          rw [ew]
          exact WrF_A (by decide)
        · intro _ v21 _ _ _ _ _ w ew _
          refine ⟨h4, g.tr ?_⟩
          rw [ew]
          exact WrF_A (by decide)
    · intro _
      exact ⟨h4, h4, g⟩
  unfold pv_9_putAtom
  refine ⟨fun _ => ?_, fun _ => ?_⟩
  · unfold pv_9_putAtom_13
    exact ⟨fun _ => e25 _ _ (by decide), fun _ => e25 _ _ (by decide)⟩
  · unfold pv_9_putAtom_13
    exact ⟨fun _ => e25 _ _ (by decide), fun _ => e25 _ _ (by decide)⟩
theorem pf_write [DecidableEq Ob] {th k : Int} {Q : iST → Prop} {u : iST} (hq : ∀ v, WrF u v → Q v) : pv_9_write th k Q u := by
  unfold pv_9_write
  refine pv_9_write_7_i (fun _ _ _ _ y => WrF u y) ?_ (WrF.rf u)
  intro x0 x2 x3 x4 y g
  unfold pv_9_write_7b
  refine ⟨fun _ => hq y g, fun _ => ?_⟩
  intro v1 _ _
  refine ⟨fun _ => hq y g, fun _ => ⟨fun _ => hq y g, fun _ => ?_⟩⟩
  refine pf_isQuoted (fun v2 => ⟨fun _ => ?_, fun _ => ?_⟩)
  · refine pf_isPair (fun v3 => ⟨fun _ => ?_, fun _ => ?_⟩)
    · refine pf_cellOf (fun v4 => pf_putAtom (fun y1 g1 => ?_))
      refine pv_9_write_130_i (fun _ _ _ _ z => WrF u z) ?_ (g.tr g1)
      intro x0 x2 x3 x4 z gz
      have e233 : ∀ z', WrF u z' → pv_9_write_233 (fun _ _ _ _ y => WrF u y) (fun _ _ _ _ z => WrF u z) Q x0 x2 x3 x4 z' := fun z' gz' => by
        unfold pv_9_write_233
        exact pf_put (fun w gw _ => gz'.tr gw)
      unfold pv_9_write_130b
      refine ⟨fun _ _ => gz, fun _ => ⟨fun _ _ => gz, fun _ => ?_⟩⟩
      intro _ _ _ v9 _ _
      refine pf_isPair (fun v10 => ⟨fun _ => ⟨fun _ => e233 z gz, fun _ => ?_⟩, fun _ => ?_⟩)
      · exact pf_put (fun a ga => pf_put (fun b gb => pf_put (fun c gc => pf_cellOf (fun v16 => pf_putAtom (fun d gd => e233 d ((((gz.tr ga).tr gb).tr gc).tr gd))))))
      · refine pf_put (fun a ga => pf_left (fun v19 _ => pf_right (fun v21 => ?_)))
        intro _ _ w ew
        refine (gz.tr ga).tr ?_
        rw [ew]
        exact WrF_A (by decide)
    · refine pf_put (fun a ga => pf_right (fun v23 => ?_))
      intro _ _ w ew _
      refine pf_left (fun v25 _ => ?_)
      refine (g.tr ga).tr ?_
      rw [ew]
      exact WrF_A (by decide)
  · exact pf_put (fun a ga => pf_right (fun v28 => pf_left (fun v29 _ => g.tr ga)))
theorem HC.wr [DecidableEq Ob] {u v : iST} {H : Sp.Hs} {m : List Ob} (h : HC u H m) (g : WrF u v) : HC v H m := h.keep (g.cg h.1) (fun k _ => by rw [g.1]) (fun k hk => g.2.2 k (by unfold f8L; exact decide_eq_false (by omega)))
/-- what fails leaves the house -/
theorem cc_fail [DecidableEq Ob] {a mk : Int} {Q : Int → iST → Prop} {y : iST} {H : Sp.Hs} {m : List Ob} (h : HC y H m) (h32 : y.1 32 ≠ 0) (hq : ∀ w, HC w H m → w.1 15 = 0 → (∀ k, k ≠ 13 → k ≠ 15 → w.1 k = y.1 k) → (∀ k, k ≠ 54 → w.2.1 k = y.2.1 k) → Q 4 w) : pv_11_conclude a mk Q y := by
  unfold pv_11_conclude
  refine pf_left (fun v1 => ?_)
  intro v2 e2 _
  refine ⟨fun z => absurd (e2.symm.trans z) h32, fun _ => ?_⟩
  unfold pv_9_clear pv_4_begin
  intro y1 e1 y2 e3 y3 e4
  have g1 : CG (fun k => decide (k = 13 ∨ k = 15)) (fun k => decide (k = 54)) y y1 := by rw [e1]; exact CG_A h.1 (by omega) (by decide)
  have g2 : CG (fun k => decide (k = 13 ∨ k = 15)) (fun k => decide (k = 54)) y1 y2 := by rw [e3]; exact CG_I g1.1 (by decide) (by decide)
  have g3 : CG (fun k => decide (k = 13 ∨ k = 15)) (fun k => decide (k = 54)) y2 y3 := by rw [e4]; exact CG_I g2.1 (by decide) (by decide)
  have g := (g1.tr g2).tr g3
  have n : ∀ k, k ≠ 13 → k ≠ 15 → y3.1 k = y.1 k := fun k a b => g.2.2.1 k (decide_eq_false (fun z => z.elim a b))
  have r : ∀ k, k ≠ 54 → y3.2.1 k = y.2.1 k := fun k a => g.2.2.2 k (decide_eq_false a)
  exact hq y3 (h.keep g (fun k hk => n k (by omega) (by omega)) (fun k hk => r k (by omega))) (by rw [e4, iIc_at]) n r
