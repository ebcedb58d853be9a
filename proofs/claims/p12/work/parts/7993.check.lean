-- deps: 7992
/-! the class: a theorem and a PROOF at their ends -/
/-- the end of a command that has not failed and has nothing LEFT -/
theorem cc_begin [DecidableEq Ob] {a mk : Int} {Q : Int → iST → Prop} {y : iST} {H : Sp.Hs} {m : List Ob} {c : Int} {o : Ob} (h : HC y H m) (va : VN y a) (c0 : 0 ≤ c) (c4 : c < 44) (ho : Ob.knownC[c.toNat]? = some o) (hf : Ob.lft (oc y a) = o) (h32 : y.1 32 = 0) (h15 : y.1 15 = 0)
    (hq : ∀ s b, HC s H m → (∀ k, k ≠ 50 → s.1 k = y.1 k) → s.1 50 = b → (b = 0 ↔ y.1 13 ≤ 0) → s.2 = y.2 → br (c ≠ 22) (pv_11_conclude_119 Q a mk c s) (pv_11_shownWrong (fun v17 u => br (v17 = (-1)) (pv_11_conclude_119 Q a mk c u) (pv_11_shownWrong (fun v18 u => pv_9_write 0 v18 (fun u => Q 7 u) u) u)) s)) : pv_11_conclude a mk Q y := by
  unfold pv_11_conclude
  refine pc_left h.1 va (fun f vf ef => ?_)
  have kc := katC h.1 c (o := o) c0 c4 ho vf.1 vf.2
  rw [ef] at kc
  rw [kc.mpr hf]
  intro v2 e2 _
  refine ⟨fun _ => ?_, fun z => absurd (e2.trans h32) z⟩
  intro v3 e3 _
  refine ⟨fun _ => ?_, fun z => absurd (show v3 ≤ 0 by omega) z⟩
  intro v4 e4 _
  have go : ∀ b : Int, (b = 0 ↔ y.1 13 ≤ 0) → pv_11_conclude_88 Q a mk c b y := fun b hb => by
    unfold pv_11_conclude_88
    intro _ s es
    exact hq s b (by rw [es]; exact h.i (by decide)) (fun k hk => by rw [es, iIc_ne _ _ hk]) (by rw [es, iIc_at]) hb (by rw [es]; rfl)
  exact ⟨fun z => go 0 ⟨fun _ => by omega, fun _ => rfl⟩, fun z => go 1 ⟨(fun q => by cases q), fun q => by omega⟩⟩
theorem cc_dthm [DecidableEq Ob] {a mk : Int} {Q : Int → iST → Prop} {y : iST} {H : Sp.Hs} {m : List Ob} (h : HC y H m) (va : VN y a) (hf : Ob.lft (oc y a) = Ob.defthm) (h32 : y.1 32 = 0) (h15 : y.1 15 = 0) (hO : Sp.HOk (Sp.addThm H (oc y (y.1 44)) (oc y (y.1 45)) 2)) (h60 : H.2.1.length < 60) (m1 : y.1 3 ≤ mk) (m2 : mk ≤ y.1 29) (v44 : VN y (y.1 44) ∧ y.1 44 < mk) (n45 : NdC y (H.env m) (y.1 45)) (l45 : y.1 45 < mk)
    (hq : ∀ w m', HC w (Sp.addThm H (oc y (y.1 44)) (oc y (y.1 45)) 2) m' → (w.1 50 = 0 ↔ y.1 13 ≤ 0) → (w.1 3 = mk ∧ ∀ k, 3 < k → k ≠ 39 → k ≠ 50 → w.1 k = y.1 k) → (∀ k, f8Tr k = false → w.2.1 k = y.2.1 k) → CE y w → BkP y w → Q 0 w) : pv_11_conclude a mk Q y := by
  refine cc_begin (c := 21) h va (by decide) (by decide) rfl hf h32 h15 (fun s b hs sn s50 hb s2 => ⟨fun _ => ?_, fun z => absurd (show (21 : Int) ≠ 22 by decide) z⟩)
  have os : ∀ x, oc s x = oc y x := fun x => oc_same (by rw [s2]) x
  have s44 := sn 44 (by decide)
  have s45 := sn 45 (by decide)
  have s29 := sn 29 (by decide)
  unfold pv_11_conclude_119
  refine ⟨fun _ => ⟨fun _ => ?_, fun z => absurd rfl z⟩, fun z => absurd (show (21 : Int) ≠ 20 by decide) z⟩
  refine cc_190 (c := 2) hs rfl (by rw [s44, s45, os, os]; exact hO) h60 (by rw [sn 3 (by decide)]; exact m1) (by rw [s29]; exact m2) (by rw [s44]; exact ⟨⟨v44.1.1, by rw [s29]; exact v44.1.2⟩, v44.2⟩) (by rw [s45]; exact ⟨⟨n45.1.1, by rw [s29]; exact n45.1.2⟩, by rw [os]; exact n45.2.1, by rw [os]; exact n45.2.2⟩) (by rw [s45]; exact l45) (fun w m' hw wn wr wE wB => ?_)
  rw [s44, s45, os, os] at hw
  refine hq w m' hw ?_ ⟨wn.1, fun k a b c => (wn.2 k a b).trans (sn k c)⟩ (fun k hk => by rw [wr k hk, s2]) ⟨by rw [← s29]; exact wE.1, fun k k0 k1 => by rw [wE.2 k k0 (by rw [s29]; exact k1), s2]⟩ ⟨⟨by rw [wB.1.1, sn 25 (by decide)], by rw [← sn 0 (by decide)]; exact wB.1.2.1, by rw [← sn 1 (by decide)]; exact wB.1.2.2⟩, fun k hk j hj => by rw [wB.2.1 k hk j (by rw [sn 0 (by decide)]; exact hj), s2], fun k h1 h2 j hj => by rw [wB.2.2.1 k h1 h2 j (by rw [sn 1 (by decide)]; exact hj), s2], by rw [wB.2.2.2.1, s2], fun i hi => by rw [wB.2.2.2.2.1 i (by rw [sn 1 (by decide)]; exact hi), s2], wB.2.2.2.2.2⟩
  rw [wn.2 50 (by decide) (by decide), s50]
  exact hb
theorem cc_check [DecidableEq Ob] {a mk : Int} {Q : Int → iST → Prop} {y : iST} {H : Sp.Hs} {m : List Ob} {E : Sp.Env} (h : HC y H m) (va : VN y a) (hf : Ob.lft (oc y a) = Ob.check) (h32 : y.1 32 = 0) (h15 : y.1 15 = 0) (hC : y.1 12 = -1 → ClW y E (y.2.1 57 0)) (hm : y.1 12 = -1 → y.1 29 + 60 ≤ 160000) (n45 : NdC y (H.env m) (y.1 45))
    (bad : (y.1 12 ≠ -1 ∨ (clC y (y.2.1 57 0)).all (fun x => decide (x = oc y (y.1 45))) = false) → ∀ w, HC w H m → (w.1 50 = 0 ↔ y.1 13 ≤ 0) → (∀ k, k ≠ 29 → k ≠ 50 → w.1 k = y.1 k) → (∀ k, f8L k = false → f8R k = false → w.2.1 k = y.2.1 k) → ((y.1 12 ≠ -1 → w.1 29 = y.1 29) ∧ w.1 29 ≤ y.1 29 + 60) → Q 7 w)
    (good : y.1 12 = -1 → (clC y (y.2.1 57 0)).all (fun x => decide (x = oc y (y.1 45))) = true → (Sp.HOk (Sp.addThm H (oc y (y.1 44)) (oc y (y.1 45)) 3) ∧ H.2.1.length < 60 ∧ y.1 3 ≤ mk ∧ mk ≤ y.1 29 ∧ VN y (y.1 44) ∧ y.1 44 < mk ∧ y.1 45 < mk) ∧ ∀ w m', HC w (Sp.addThm H (oc y (y.1 44)) (oc y (y.1 45)) 3) m' → (w.1 50 = 0 ↔ y.1 13 ≤ 0) → (w.1 3 = mk ∧ ∀ k, 3 < k → k ≠ 39 → k ≠ 50 → w.1 k = y.1 k) → (∀ k, f8Tr k = false → w.2.1 k = y.2.1 k) → Q 0 w) : pv_11_conclude a mk Q y := by
  refine cc_begin (c := 22) h va (by decide) (by decide) rfl hf h32 h15 (fun s b hs sn s50 hb s2 => ⟨fun z => absurd rfl z, fun _ => ?_⟩)
  have os : ∀ x, oc s x = oc y x := fun x => oc_same (by rw [s2]) x
  have s44 := sn 44 (by decide)
  have s45 := sn 45 (by decide)
  have s29 := sn 29 (by decide)
  have s12 := sn 12 (by decide)
  have ecl : ∀ c, clC s c = clC y c := fun c => by
    unfold clC
    rw [s2]
    exact lsC_congr (fun i _ => os _)
  have wCl : y.1 12 = -1 → ClW s E (s.2.1 57 0) := fun z => by
    obtain ⟨c1, c2, c3, c4⟩ := hC z
    unfold ClW
    rw [ecl, s2]
    exact ⟨c1, fun i i0 i1 => ⟨⟨(c2 i i0 i1).1.1, by rw [s29]; exact (c2 i i0 i1).1.2⟩, by rw [os]; exact (c2 i i0 i1).2.1, by rw [os]; exact (c2 i i0 i1).2.2⟩, c3, c4⟩
  have eall : (clC s (s.2.1 57 0)).all (fun x => decide (x = oc s (s.1 45))) = (clC y (y.2.1 57 0)).all (fun x => decide (x = oc y (y.1 45))) := by rw [ecl, s2, s45, os]
  have v45 : VN s (s.1 45) := by rw [s45]; exact ⟨n45.1.1, by rw [s29]; exact n45.1.2⟩
  -- what is shown
  have tell : (y.1 12 ≠ -1 ∨ (clC y (y.2.1 57 0)).all (fun x => decide (x = oc y (y.1 45))) = false) → ∀ v, CG f8M f8R s v → (v.1 29 ≤ s.1 29 + 30 ∧ (y.1 12 ≠ -1 → v.1 29 = s.1 29)) → pv_11_shownWrong (fun v18 u => pv_9_write 0 v18 (fun u => Q 7 u) u) v := fun hb' v g v29 => by
    have fin : ∀ r w, CG f8M f8R s w → ((y.1 12 ≠ -1 → w.1 29 = y.1 29) ∧ w.1 29 ≤ y.1 29 + 60) → pv_9_write 0 r (fun u => Q 7 u) w := fun r w gw h9 => by
      refine pf_write (fun x gx => bad hb' x ((hs.M gw).wr gx) ?_ (fun k k1 k2 => ?_) (fun k k1 k2 => ?_) (by rw [gx.1]; exact h9))
      · rw [gx.1, gw.2.2.1 50 (by decide), s50]; exact hb
      · rw [gx.1, gw.2.2.1 k (by unfold f8M; exact decide_eq_false k1), sn k k2]
      · rw [gx.2.2 k k1, gw.2.2.2 k k2, s2]
    have v12 : v.1 12 = y.1 12 := by rw [g.2.2.1 12 (by decide)]; exact s12
    have r46 : ∀ k, (46 ≤ k ∧ k ≤ 49) ∨ k = 57 → v.2.1 k = s.2.1 k := fun k hk => g.2.2.2 k (by unfold f8R; exact decide_eq_false (by omega))
    refine pc_shownWrong (E := E) g.1 (fun z => ?_) (by rw [g.2.2.1 45 (by decide)]; exact v45.up g) (fun z => by have := hm (by rw [← v12]; exact z); omega) (fun _ r _ => fin r v g ⟨fun z => (v29.2 z).trans s29, by have := v29.1; omega⟩) (fun _ _ => fin (-1) v g ⟨fun z => (v29.2 z).trans s29, by have := v29.1; omega⟩) (fun z _ r w gw _ w29 => fin r w (g.tr gw) ⟨fun z2 => absurd (v12.symm.trans z) z2, by have := v29.1; omega⟩)
    have q := wCl (by rw [← v12]; exact z)
    rw [r46 57 (by omega)]
    exact (q.up hs.1 g (fun k h1 h2 => r46 k (by omega))).1
  refine pc_shownWrong (E := E) hs.1 (fun z => wCl (by rw [← s12]; exact z)) v45 (fun z => by have := hm (by rw [← s12]; exact z); omega) (fun w1 r hr => ⟨fun z => absurd z hr, fun _ => tell (Or.inl (by rw [← s12]; exact w1)) s (CG.rf hs.1) ⟨by omega, fun _ => rfl⟩⟩) (fun w1 hall => ⟨fun _ => ?_, fun z => absurd rfl z⟩) (fun w1 hno r v g vr v29 => ⟨fun z => by have := vr.1; omega, fun _ => tell (Or.inr (by rw [← eall]; exact hno)) v g ⟨v29, fun z => absurd (s12.symm.trans w1) z⟩⟩)
  obtain ⟨⟨g1, g2, g3, g4, g5, g6, g7⟩, g8⟩ := good (by rw [← s12]; exact w1) (by rw [← eall]; exact hall)
  unfold pv_11_conclude_119
  refine ⟨fun _ => ⟨(fun z => by cases z), fun _ => ⟨fun z => absurd rfl z, fun _ => ?_⟩⟩, fun z => absurd (show (22 : Int) ≠ 20 by decide) z⟩
  refine cc_190 (c := 3) hs rfl (by rw [s44, s45, os, os]; exact g1) g2 (by rw [sn 3 (by decide)]; exact g3) (by rw [s29]; exact g4) (by rw [s44]; exact ⟨⟨g5.1, by rw [s29]; exact g5.2⟩, g6⟩) (by rw [s45]; exact ⟨⟨n45.1.1, by rw [s29]; exact n45.1.2⟩, by rw [os]; exact n45.2.1, by rw [os]; exact n45.2.2⟩) (by rw [s45]; exact g7) (fun w m' hw wn wr wE wB => ?_)
  rw [s44, s45, os, os] at hw
  refine g8 w m' hw ?_ ⟨wn.1, fun k a b c => (wn.2 k a b).trans (sn k c)⟩ (fun k hk => by rw [wr k hk, s2])
  rw [wn.2 50 (by decide) (by decide), s50]
  exact hb
