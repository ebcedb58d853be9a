-- deps: 773
/-! the class: weak, cut, inst, swap, put -/
theorem fm_cons [DecidableEq Ob] {ar : Ob → Int} {p x : Ob} {l : List Ob} (h : Ob.rdT ar p = some x) : (p :: l).filterMap (Ob.rdT ar) = x :: l.filterMap (Ob.rdT ar) := by rw [List.filterMap_cons, h]
theorem f8Yr_lo [DecidableEq Ob] : ∀ k, k ≤ 4 → f8Yr k = false := fun k h => by
  unfold f8Yr
  simp only [Bool.or_eq_false_iff, decide_eq_false_iff_not]
  omega
/-- STEPS, and how far the room is filled -/
def StB [DecidableEq Ob] (X : Int) (w : iST) (s : Sp.Wk) : Prop := StS w s ∧ w.1 29 ≤ X + (s.2 : Int)
theorem StB.le [DecidableEq Ob] {X X' : Int} {w : iST} {s : Sp.Wk} (h : StB X w s) (hX : X ≤ X') : StB X' w s := ⟨h.1, by have := h.2; omega⟩
section
variable {α : Type} {δ : Nat} {B : Int} {n r : Nat → Bool} {u v : iST} {E : Sp.Env} {R : EStateM.Result Unit Sp.Wk α} {K : List Ob → Sp.M α} {m : Int}
theorem leP [DecidableEq Ob] {b B' : Int} {w : iST} {X : Sp.M α} (h : PdK_d b δ n r u w R X) (hb : b ≤ B') : PdK_d B' δ n r u w R X := by
  have := h.more (c := B' - b) (CG.rf (n := f80) (r := f80) h.1.1) (fun _ _ => rfl) (fun _ _ => rfl) (by omega) rfl rfl rfl
  rw [show b + (B' - b) = B' by omega] at this
  exact this
theorem pc_concludeWeak [DecidableEq Ob] {f a : Int} {Q : iST → Prop} (hP : PdK_d B δ n r u v R (K (((Ob.toList (oc v a)).filterMap (Ob.rdT (Sp.arOf E))).foldl Sp.putL (clC v f)))) (hn : ∀ k, n k = false → f8Yn k = false) (hr : ∀ k, r k = false → f8Yr k = false) (fit : Fit (B + npr (oc v a)) R) (hKm : ∀ l, Mono (K l)) (hKd : ∀ l, Sp.bnd l = false → Die (K l)) (hR : RdE v E) (hfm : f ≠ m) (hF : ClW v E f) (hFb : Sp.bnd (clC v f) = true) (h48 : v.2.1 48 f = v.2.1 48 m) (va : VN v a) (hz : npr (oc v a) ≤ 100000) (hs : (Ob.toList (oc v a)).all (fun x => (Ob.rdT (Sp.arOf E) x).isSome) = true) (hq : ∀ w, CcK E m v w → PdK_d (B + npr (oc v a)) δ n r u w R (K (clC w m)) → Q w) : pv_3_concludeWeak m f a Q v := by
  have hT := hR.1
  have h32 := hR.2.2.2.1
  unfold pv_3_concludeWeak
  refine pc_copy1 (E := E) hT hfm hF (fun y0 k0 n0 W0 l0 r0 => ?_)
  have P0 := hP.on k0.1 (fun _ _ => rfl) (fun k h => f8C_Y k (hr k h)) (by rw [n0]) (by rw [n0]) (by rw [n0]) (by rw [n0])
  rw [← l0] at P0
  have c0 : CcK E m v y0 := ⟨k0.1.mono (fun _ _ => rfl) f8C_Y, k0.ot (fun j hj => hj), fun z => absurd h32 z, fun _ => ⟨W0, by rw [l0]; exact hFb, by rw [r0]; exact h48⟩⟩
  have ea0 : oc y0 a = oc v a := oc_same k0.2.1 a
  generalize hB' : B + npr (oc v a) = B' at fit hq
  refine pv_3_concludeWeak_8_i (fun x1 x4 y => x1 = m ∧ ∃ b : Int, CcK E m v y ∧ VN y x4 ∧ b + npr (oc y x4) ≤ B' ∧ npr (oc y x4) ≤ npr (oc v a) ∧ (Ob.toList (oc y x4)).all (fun x => (Ob.rdT (Sp.arOf E) x).isSome) = true ∧ PdK_d b δ n r u y R (K (((Ob.toList (oc y x4)).filterMap (Ob.rdT (Sp.arOf E))).foldl Sp.putL (clC y m)))) ?_ ⟨rfl, B, c0, va.up k0.1, by rw [ea0]; omega, by rw [ea0]; exact Int.le_refl _, by rw [ea0]; exact hs, by rw [ea0]; exact P0⟩
  rintro x1 x4 y ⟨b1, b, cy, vx, hb, hle, hall, hPy⟩
  rw [b1]
  have hTy := cy.1.1
  have np := npr_pos (oc y x4)
  unfold pv_3_concludeWeak_8b
  refine pc_isPair hTy vx (fun r0 hr0 => ⟨fun z => ?_, fun z => ?_⟩)
  · have hno := hr0.f z
    cases e : oc y x4 with
    | op p l => rw [e] at hno; cases hno
    | var w =>
      rw [e] at hPy
      exact hq y cy (leP hPy (by omega))
  have hpr := hr0.t z
  cases e : oc y x4 with
  | var w => rw [e] at hpr; cases hpr
  | op p l =>
    rw [e] at hb hle hall hPy
    have hb : b + (1 + npr p + npr l) ≤ B' := hb
    have hle : 1 + npr p + npr l ≤ npr (oc v a) := hle
    have np1 := npr_pos p
    have np2 := npr_pos l
    have hall : ((Ob.rdT (Sp.arOf E) p).isSome && (Ob.toList l).all (fun x => (Ob.rdT (Sp.arOf E) x).isSome)) = true := hall
    obtain ⟨ha1, ha2⟩ := Bool.and_eq_true_iff.mp hall
    obtain ⟨X, eX⟩ := Option.isSome_iff_exists.mp ha1
    have hPy : PdK_d b δ n r u y R (K (((p :: Ob.toList l).filterMap (Ob.rdT (Sp.arOf E))).foldl Sp.putL (clC y m))) := hPy
    rw [fm_cons eX] at hPy
    have hPy : PdK_d b δ n r u y R ((fun l' => K (((Ob.toList l).filterMap (Ob.rdT (Sp.arOf E))).foldl Sp.putL l')) (Sp.putL (clC y m) X)) := hPy
    refine pc_left hTy vx (fun v3 vv3 e3 => ?_)
    rw [e] at e3
    have e3 : oc y v3 = p := e3
    have fin : ∀ (t : Int) (w : iST), CG f8B f8W y w → (y.1 32 ≠ 0 → w.1 32 ≠ 0) → NdD w E t → PdK_d (b + npr p) δ n r u w R ((fun l' => K (((Ob.toList l).filterMap (Ob.rdT (Sp.arOf E))).foldl Sp.putL l')) (Sp.putL (clC y m) (oc w t))) → pv_10_join m t (fun u' => pv_7_right x4 (fun v6 u' => m = m ∧ ∃ b : Int, CcK E m v u' ∧ VN u' v6 ∧ b + npr (oc u' v6) ≤ B' ∧ npr (oc u' v6) ≤ npr (oc v a) ∧ (Ob.toList (oc u' v6)).all (fun x => (Ob.rdT (Sp.arOf E) x).isSome) = true ∧ PdK_d b δ n r u u' R (K (((Ob.toList (oc u' v6)).filterMap (Ob.rdT (Sp.arOf E))).foldl Sp.putL (clC u' m)))) u') w := by
      intro t w gw wd nt Pw
      have hC1 := CcK.same (E := E) (m := m) (l := clC y m) hTy (fun z => ⟨(cy.2.2.2 z).1, rfl⟩) gw (f8B_rows gw) wd
      have P2 := PdK_d.cl (G := fun l0 => (fun l' => K (((Ob.toList l).filterMap (Ob.rdT (Sp.arOf E))).foldl Sp.putL l')) (Sp.putL l0 (oc w t))) Pw hC1
      refine pc_joinC (K := fun l' => K (((Ob.toList l).filterMap (Ob.rdT (Sp.arOf E))).foldl Sp.putL l')) P2 hn hr (fun z => ⟨(hC1 z).1, ?_⟩) nt (fun l' hbb => hKd _ (bndFold hbb)) (fun w2 c2 P3 => ?_)
      · rw [(hC1 z).2]
        have zy : y.1 32 = 0 := by
          by_cases q : y.1 32 = 0
          · exact q
          · exact absurd z (wd q)
        exact (cy.2.2.2 zy).2.1
      · have c02 : CcK E m y w2 := CcK.pre gw f8B_Y f8W_Y (f8B_rows gw) wd c2
        refine pc_right c2.1.1 (vx.up c02.1) (fun t2 vt2 et2 => ?_)
        rw [c02.1.oc hTy vx.1 vx.2, e] at et2
        have et2 : oc w2 t2 = l := et2
        exact ⟨rfl, b + npr p, cy.tr c02, vt2, by rw [et2]; omega, by rw [et2]; omega, by rw [et2]; exact ha2, by rw [et2]; exact P3⟩
    by_cases ya : y.1 32 = 0
    · have hRy : RdE y E := hR.up cy.1 (by decide) (by decide) f8Yr_lo ya
      have free := PdK_d.free (c := npr p) hPy (fit.le (by omega)) (hKm _) ya
      refine pc_readE hRy vv3 (by rw [e3]; omega) (by rw [e3]; exact free) (fun t w gw hRw w29 hor => ?_)
      rw [e3] at w29 hor
      rcases hor with ⟨_, q⟩ | ⟨q1, q2⟩
      · rw [eX] at q; cases q
      · rw [eX] at q2
        have Pw := hPy.more (c := npr p) gw (fun k h => f8B_Y k (hn k h)) (fun k h => f8W_Y k (hr k h)) w29 (gw.2.2.1 30 (by decide)) (gw.2.2.1 31 (by decide)) (by rw [hRw.2.2.2.1, ya])
        rw [Option.some.inj q2] at Pw
        exact fin t w gw (fun z => absurd ya z) q1.d Pw
    · have hDy := hR.2.1.mono hT cy.1 (cy.1.2.2.1 0 (by decide)) (fun k hk => cy.1.2.2.2 k (f8Yr_lo k hk))
      refine pc_readD hTy hDy ((cy.1.2.2.1 37 (by decide)).trans hR.2.2.1) vv3 (by rw [e3]; omega) ya (fun t w gw wz t0 t1 t29 => ?_)
      obtain ⟨s, hl, e'⟩ := hPy.dead (δ' := δ) ya
      rw [e3] at t29
      exact fin t w gw (fun _ => wz) ⟨t0, t1, fun q => absurd q wz⟩ ⟨hPy.1.tr (gw.mono (fun k h => f8B_Y k (hn k h)) (fun k h => f8W_Y k (hr k h))), Or.inr ⟨s, ⟨wz, hl.2.1.cg gw (by decide) (by decide) rfl, by have := hl.2.2; omega⟩, e'⟩⟩
/-- a cut -/
theorem pc_isCut [DecidableEq Ob] {f1 f2 x : Int} {Q : Int → iST → Prop} (hP : PdK_d B δ n r u v R (Sp.bd (if Ob.has (clC v f1) (oc v x) && (clC v f2).any (fun y => Sp.isNeg y (oc v x)) then Sp.ret (((clC v f1).filter (· ≠ oc v x) ++ (clC v f2).filter (fun y => !Sp.isNeg y (oc v x))).foldl Sp.putL []) else Sp.fail) K)) (hn : ∀ k, n k = false → f8Yn k = false) (hr : ∀ k, r k = false → f8Yr k = false) (hKd : ∀ l, Sp.bnd l = false → Die (K l)) (h32 : v.1 32 = 0) (hC : ClW v E m ∧ clC v m = []) (h1m : f1 ≠ m) (h2m : f2 ≠ m) (hF1 : ClW v E f1) (hF2 : ClW v E f2) (nx : NdC v E x)
    (hq1 : ∀ w, CcK E m v w → PdK_d B δ n r u w R (K (clC w m)) → Q 1 w) (hq0 : (∃ s, StB B v s ∧ R = .error () s) → Q 0 v) : pv_3_isCut m f1 f2 x Q v := by
  have hT := hP.1.1
  have hl2 := hF2.1
  obtain ⟨s, hls, eR⟩ := hP.live h32
  have no : (Ob.has (clC v f1) (oc v x) && (clC v f2).any (fun y => Sp.isNeg y (oc v x))) = false → Q 0 v := fun h => by
    refine hq0 ⟨s, ⟨hls.2.1, hls.2.2⟩, ?_⟩
    rw [eR, h]
    rfl
  unfold pv_3_isCut
  refine pv_3_isCut_6_i (fun x1 x2 x3 x4 x5 x6 y => x1 = m ∧ x2 = f1 ∧ x3 = f2 ∧ x4 = x ∧ y = v ∧ ∃ k : Nat, x6 = (k : Int) ∧ (((x5 = -1) ∧ ∀ i : Nat, i < k → (i : Int) < v.2.1 46 f2 → Sp.isNeg (oc v (v.2.1 49 (30 * f2 + (i : Int)))) (oc v x) = false) ∨ (∃ i : Nat, (i : Int) < v.2.1 46 f2 ∧ x5 = v.2.1 49 (30 * f2 + (i : Int)) ∧ Sp.isNeg (oc v x5) (oc v x) = true))) ?_ ⟨rfl, rfl, rfl, rfl, rfl, 0, rfl, Or.inl ⟨rfl, fun i hi => by omega⟩⟩
  rintro x1 x2 x3 x4 x5 x6 y ⟨b1, b2, b3, b4, ey, k, b6, hor⟩
  rw [b1, b2, b3, b4, ey, b6]
  unfold pv_3_isCut_6b
  intro v1 e1 _
  refine ⟨fun q => ?_, fun q => ?_⟩
  rotate_left
  · intro i0 i1 v5 e5 _
    have nk := hF2.2.1 (k : Int) (by omega) (by omega)
    rw [← e5] at nk
    refine pc_isNegation hT nk.1 nx.1 (fun r6 h6 => ⟨fun z => ?_, fun z => ?_⟩)
    · intro _
      refine ⟨rfl, rfl, rfl, rfl, rfl, k + 1, by omega, ?_⟩
      rcases hor with ⟨q1, q2⟩ | q1
      · refine Or.inl ⟨q1, fun i hi hi2 => ?_⟩
        by_cases c : i = k
        · rw [c, ← e5]; exact h6.f z
        · exact q2 i (by omega) hi2
      · exact Or.inr q1
    · intro _ _ v8 e8 _ _
      refine ⟨rfl, rfl, rfl, rfl, rfl, k + 1, by omega, Or.inr ⟨k, by omega, e8, ?_⟩⟩
      rw [e8, ← e5]
      exact h6.t z
  have anyF : x5 = -1 → (clC v f2).any (fun y => Sp.isNeg y (oc v x)) = false := fun h => bf_of (fun h2 => by
    obtain ⟨o, ho, hneg⟩ := List.any_eq_true.mp h2
    obtain ⟨i, i0, i1, ei⟩ := clC_mem.mp ho
    rcases hor with ⟨_, q2⟩ | ⟨j, hj, ej, _⟩
    · have := q2 i.toNat (by omega) (by omega)
      rw [show ((i.toNat : Nat) : Int) = i by omega, ei, hneg] at this
      cases this
    · have := (hF2.2.1 (j : Int) (by omega) hj).1.1
      omega)
  refine pc_placeOf hT hF1 nx.1 (fun hnot => ⟨fun _ _ => no ?_, fun q2 => absurd rfl q2⟩) (fun i i0 i1 ei => ⟨fun q2 => by omega, fun _ => ⟨fun q3 => ?_, fun q3 _ => no ?_⟩⟩)
  · rw [show Ob.has (clC v f1) (oc v x) = false from bf_of (fun h => hnot (Ob.has_iff.mp h))]
    rfl
  · obtain ⟨j, hj, ej, hneg⟩ : ∃ i : Nat, (i : Int) < v.2.1 46 f2 ∧ x5 = v.2.1 49 (30 * f2 + (i : Int)) ∧ Sp.isNeg (oc v x5) (oc v x) = true := by
      rcases hor with ⟨q4, _⟩ | q4
      · exact absurd q4 q3
      · exact q4
    have n5 := hF2.2.1 (j : Int) (by omega) hj
    rw [← ej] at n5
    have hin : Ob.has (clC v f1) (oc v x) = true := Ob.has_iff.mpr (clC_mem.mpr ⟨i, i0, i1, by rw [ei]⟩)
    have hany : (clC v f2).any (fun y => Sp.isNeg y (oc v x)) = true := List.any_eq_true.mpr ⟨oc v x5, clC_mem.mpr ⟨(j : Int), by omega, hj, by rw [← ej]⟩, hneg⟩
    have ex5 : oc v x5 = Ob.neg (oc v x) := by
      rw [isNeg_neg n5.2.1] at hneg
      exact of_decide_eq_true hneg
    have efil : (clC v f2).filter (fun y => !Sp.isNeg y (oc v x)) = (clC v f2).filter (fun y => decide (y ≠ oc v x5)) := by
      refine List.filter_congr (fun o ho => ?_)
      obtain ⟨i', i0', i1', ei'⟩ := clC_mem.mp ho
      have wo := (hF2.2.1 i' i0' i1').2.1
      rw [ei'] at wo
      rw [isNeg_neg wo, ex5, decide_not]
    have P1 : PdK_d B δ n r u v R ((fun l => K (((clC v f2).filter (fun y => decide (y ≠ oc v x5))).foldl Sp.putL l)) (((clC v f1).filter (fun y => decide (y ≠ oc v x))).foldl Sp.putL (clC v m))) := by
      have hcond : (Ob.has (clC v f1) (oc v x) && (clC v f2).any (fun y => Sp.isNeg y (oc v x))) = true := by rw [hin, hany]; rfl
      rw [if_pos hcond] at hP
      have : PdK_d B δ n r u v R (K (((clC v f1).filter (fun y => decide (y ≠ oc v x)) ++ (clC v f2).filter (fun y => !Sp.isNeg y (oc v x))).foldl Sp.putL [])) := hP
      rw [hC.2]
      rw [List.foldl_append, efil] at this
      exact this
    refine pc_joinAllBut (E := E) (K := fun l => K (((clC v f2).filter (fun y => decide (y ≠ oc v x5))).foldl Sp.putL l)) P1 hn hr (fun l hb => hKd _ (bndFold hb)) (fun _ => ⟨hC.1, by rw [hC.2]; rfl⟩) h1m hF1 nx.1 (fun w c1 P2 => ?_)
    obtain ⟨hF2w, el2, _⟩ := c1.2.1.cl hT c1.1 h2m hF2
    obtain ⟨n5w, e5w⟩ := n5.up hT c1.1
    have P2 : PdK_d B δ n r u w R (K (((clC v f2).filter (fun y => decide (y ≠ oc v x5))).foldl Sp.putL (clC w m))) := P2
    rw [← el2, ← e5w] at P2
    refine pc_joinAllBut (E := E) P2 hn hr hKd (fun z => ⟨(c1.2.2.2 z).1, (c1.2.2.2 z).2.1⟩) h2m hF2w n5w.1 (fun w2 c2 P3 => ?_)
    intro _
    exact hq1 w2 (c1.tr c2) P3
  · rw [anyF (Decidable.not_not.mp q3), Bool.and_false]
end
