-- deps: 727
/-! the class: an object is written -/
def pnC [DecidableEq Ob] (u : iST) (r : Int → Int) (th : Int) : Nat → List Int | 0 => [] | k + 1 => Ob.tlM true (oc u (r (2000 * th + (k : Int)))) ++ pnC u r th k
theorem pnC_congr [DecidableEq Ob] {u : iST} {r r' : Int → Int} {th : Int} : ∀ n : Nat, (∀ i : Nat, i < n → r' (2000 * th + (i : Int)) = r (2000 * th + (i : Int))) → pnC u r' th n = pnC u r th n
  | 0, _ => rfl
  | n + 1, h => by
    show Ob.tlM true (oc u (r' (2000 * th + (n : Int)))) ++ pnC u r' th n = Ob.tlM true (oc u (r (2000 * th + (n : Int)))) ++ pnC u r th n
    rw [h n (Nat.lt_succ_self n), pnC_congr n (fun i hi => h i (by omega))]
theorem pc_cellOf [DecidableEq Ob] {k : Int} {Q : Int → iST → Prop} {u : iST} (hk : VN u k) (hq : Q (u.2.2 k) u) : pv_7_cellOf k Q u := by
  unfold pv_7_cellOf
  refine ⟨fun z => by have := hk.1; omega, fun _ => ?_⟩
  intro a ea _
  rw [ea]
  refine ⟨fun z => by have := hk.2; omega, fun _ => ?_⟩
  intro _ _ b eb _
  rw [eb]
  exact hq
theorem VN.same [DecidableEq Ob] {u v : iST} {k : Int} (h : VN u k) (e : v.1 29 = u.1 29) : VN v k := ⟨h.1, by rw [e]; exact h.2⟩
theorem pc_write [DecidableEq Ob] {th k : Int} {Q : iST → Prop} {u : iST} (hT : CT u) (h : 0 ≤ u.2.1 54 th ∧ u.2.1 54 th ≤ slenI th) (hk : VN u k) (hq : ∀ v, TlC th u v (Ob.told (oc u k)) → Q v) : pv_9_write th k Q u := by
  have hs := slen_low th
  obtain ⟨T, eT⟩ : ∃ T, Ob.told (oc u k) = T := ⟨_, rfl⟩
  rw [eT] at hq
  have eT' : Ob.tlM false (oc u k) = T := eT
  have up : ∀ {y W} (_ : TlC th u y W) {j : Int}, VN u j → VN y j := by intro y W ty j hj; exact hj.up ty.1
  have eoc : ∀ {y W} (_ : TlC th u y W) (j : Int), oc y j = oc u j := by intro y W ty j; exact oc_same ty.2.1 j
  have n29 : ∀ {y W} (_ : TlC th u y W), y.1 29 = u.1 29 := by intro y W ty; exact ty.1.2.2.1 29 rfl
  have i54 : ∀ {y W} (_ : TlC th u y W), 0 ≤ y.2.1 54 th ∧ y.2.1 54 th ≤ slenI th := by intro y W ty; exact ty.2.2.1
  -- full
  have full : ∀ {y W V}, TlC th u y W → T = W ++ V → (slenI th ≤ y.2.1 54 th ∨ slenI th ≤ (W.length : Int)) → Q y := by
    intro y W V ty e hf
    refine hq y ⟨ty.1, ty.2.1, ty.2.2.1, ?_, ty.2.2.2.2⟩
    have hl := ty.2.2.2.1
    rw [hl, e, ← List.append_assoc]
    have hlen : (slenI th).toNat ≤ (LtC th u ++ W).length := by
      rcases hf with q | q
      · have : (LtC th y).length = (y.2.1 54 th).toNat := LtC_len th y
        rw [hl, List.length_take] at this
        omega
      · rw [List.length_append]; omega
    rw [List.take_append_of_le_length hlen]
  unfold pv_9_write
  refine pv_9_write_7_i (fun x0 x2 x3 x4 y => x0 = th ∧ 0 ≤ x2 ∧ ∃ W, TlC th u y W ∧ x4 ≤ (W.length : Int) ∧ (∀ i : Nat, (i : Int) < x2 → VN u (y.2.1 56 (2000 * th + (i : Int)))) ∧ ((x3 = -1 ∧ x2 = 0 ∧ T = W) ∨ (VN u x3 ∧ T = W ++ (Ob.tlM false (oc u x3) ++ pnC u (y.2.1 56) th x2.toNat)))) ?_ ⟨rfl, Int.le_refl _, [], TlC.rf hT h, Int.le_refl _, fun i hi => by omega, Or.inr ⟨hk, by rw [eT']; show T = [] ++ (T ++ []); rw [List.append_nil]; rfl⟩⟩
  rintro x0 x2 x3 x4 y ⟨e0, h2, W, ty, hx4, hst, hor⟩
  rw [e0]
  have hTy := ty.1.1
  unfold pv_9_write_7b
  have tw : ∃ V, T = W ++ V := by
    rcases hor with ⟨_, _, q⟩ | ⟨_, q⟩
    · exact ⟨[], by rw [List.append_nil]; exact q⟩
    · exact ⟨_, q⟩
  obtain ⟨V, eV⟩ := tw
  refine ⟨fun z => full ty eV (Or.inr (by omega)), fun _ => ?_⟩
  intro a ea _
  rw [ea]
  refine ⟨fun z => full ty eV (Or.inl z), fun _ => ⟨fun z => ?_, fun hne => ?_⟩⟩
  · rcases hor with ⟨_, _, q⟩ | ⟨q, _⟩
    · rw [q] at hq; exact hq y ty
    · have := q.1; omega
  obtain ⟨v3, eW⟩ := hor.resolve_left (fun q => hne q.1)
  clear hor eV
  refine pc_isQuoted hTy (up ty v3) (fun r hr => ⟨fun z => ?_, fun z => ?_⟩)
  rotate_left
  · have hqd := hr.t z
    rw [eoc ty] at hqd
    refine pc_put hTy (i54 ty) (by decide) (fun y1 t1 r1 => ?_)
    have ty1 := ty.tr t1
    refine pc_right ty1.1.1 (up ty1 v3) (fun v28 vv28 e28 => pc_left ty1.1.1 vv28 (fun v29 vv29 e29 => ?_))
    rw [eoc ty1] at e28
    rw [eoc ty1, eoc ty1] at e29
    rw [eoc ty1] at e28
    intro _
    refine ⟨rfl, h2, W ++ [39], ty1, by rw [List.length_append]; simp; omega, fun i hi => by rw [r1]; exact hst i hi, Or.inr ⟨vv29.same (n29 ty1).symm, ?_⟩⟩
    rw [eW, tl_quoted hqd, e29, e28, r1, List.append_assoc]; rfl
  have nqd := hr.f z
  rw [eoc ty] at nqd
  refine pc_isPair hTy (up ty v3) (fun r2 hr2 => ⟨fun z2 => ?_, fun z2 => ?_⟩)
  · -- an atom
    have np := hr2.f z2
    refine pc_cellOf (up ty v3) (pc_putAtom hTy (i54 ty) (up ty v3) np (fun y1 t1 r1 hl1 => ?_))
    have np' := np
    rw [eoc ty] at t1 hl1 np'
    have ty1 := ty.tr t1
    refine pv_9_write_130_i (fun x0 x2 x3 x4 y => x0 = th ∧ 0 ≤ x2 ∧ ∃ W, TlC th u y W ∧ x4 + 1 ≤ (W.length : Int) ∧ (∀ i : Nat, (i : Int) < x2 → VN u (y.2.1 56 (2000 * th + (i : Int)))) ∧ ((x3 = -1 ∧ T = W ++ pnC u (y.2.1 56) th x2.toNat) ∨ (VN u x3 ∧ T = W ++ (Ob.tlM false (oc u x3) ++ pnC u (y.2.1 56) th x2.toNat)))) ?_ ⟨rfl, h2, _, ty1, by rw [List.length_append]; omega, fun i hi => by rw [r1]; exact hst i hi, Or.inl ⟨rfl, by rw [eW, tl_leaf np', r1, List.append_assoc]⟩⟩
    clear eW hst hx4 ty t1 r1 ty1 hl1 np np' nqd hr hr2 hTy h2 z z2 ea
    rintro x0 x2 x3 x4 y ⟨e0, h2, W, ty, hx4, hst, hor⟩
    rw [e0]
    have hTy := ty.1.1
    unfold pv_9_write_130b
    refine ⟨fun z => ?_, fun z => ⟨fun z2 => ?_, fun z2 => ?_⟩⟩
    · have e2 : x2 = 0 := by omega
      intro _
      refine ⟨rfl, h2, W, ty, hx4, hst, ?_⟩
      rw [e2] at hor ⊢
      rcases hor with ⟨q1, q2⟩ | q
      · exact Or.inl ⟨q1, rfl, by rw [q2]; exact List.append_nil W⟩
      · exact Or.inr q
    · intro _
      exact ⟨rfl, h2, W, ty, hx4, hst, Or.inr (hor.resolve_left (fun q => z2 q.1))⟩
    have e3 : x3 = -1 := Decidable.not_not.mp z2
    have eW : T = W ++ pnC u (y.2.1 56) th x2.toNat := by
      rcases hor with q | q
      · exact q.2
      · have := q.1.1; omega
    obtain ⟨n, en⟩ : ∃ n : Nat, x2 = (n : Int) + 1 := ⟨(x2 - 1).toNat, by omega⟩
    rw [en, show ((n : Int) + 1).toNat = n + 1 by omega] at eW
    have eW : T = W ++ (Ob.tlM true (oc u (y.2.1 56 (2000 * th + (n : Int)))) ++ pnC u (y.2.1 56) th n) := eW
    intro _ _ _ v9 e9 _
    rw [en, show (n : Int) + 1 - 1 = (n : Int) by omega] at e9
    have v9v : VN u v9 := by rw [e9]; exact hst n (by omega)
    rw [← e9] at eW
    have x2m : x2 + (-1) = (n : Int) := by omega
    -- behind the last item
    have close : ∀ {y' W'}, TlC th u y' W' → y'.2.1 56 = y.2.1 56 → x4 + 1 ≤ (W'.length : Int) → T = W' ++ ([41] ++ pnC u (y.2.1 56) th n) → pv_9_write_233 (fun x0 x2 x3 x4 y => x0 = th ∧ 0 ≤ x2 ∧ ∃ W, TlC th u y W ∧ x4 ≤ (W.length : Int) ∧ (∀ i : Nat, (i : Int) < x2 → VN u (y.2.1 56 (2000 * th + (i : Int)))) ∧ ((x3 = -1 ∧ x2 = 0 ∧ T = W) ∨ (VN u x3 ∧ T = W ++ (Ob.tlM false (oc u x3) ++ pnC u (y.2.1 56) th x2.toNat)))) (fun x0 x2 x3 x4 y => x0 = th ∧ 0 ≤ x2 ∧ ∃ W, TlC th u y W ∧ x4 + 1 ≤ (W.length : Int) ∧ (∀ i : Nat, (i : Int) < x2 → VN u (y.2.1 56 (2000 * th + (i : Int)))) ∧ ((x3 = -1 ∧ T = W ++ pnC u (y.2.1 56) th x2.toNat) ∨ (VN u x3 ∧ T = W ++ (Ob.tlM false (oc u x3) ++ pnC u (y.2.1 56) th x2.toNat)))) Q th x2 x3 x4 y' := by
      intro y' W' ty' r' hl' eW'
      unfold pv_9_write_233
      refine pc_put ty'.1.1 (i54 ty') (by decide) (fun y1 t1 r1 => ?_)
      intro _
      rw [x2m]
      refine ⟨rfl, by omega, W' ++ [41], ty'.tr t1, by rw [List.length_append]; omega, fun i hi => by rw [r1, r']; exact hst i (by omega), Or.inl ⟨e3, ?_⟩⟩
      rw [eW', r1, r', Int.toNat_natCast, List.append_assoc]
    refine pc_isPair hTy (up ty v9v) (fun r2 hr2 => ⟨fun z4 => ?_, fun z4 => ?_⟩)
    · have np := hr2.f z4
      rw [eoc ty] at np
      have k0 := oc_nil hTy (up ty v9v)
      rw [eoc ty] at k0
      refine ⟨fun z5 => close ty rfl hx4 ?_, fun z5 => ?_⟩
      · rw [eW, k0.mp z5, tl_nil]
      · refine pc_put hTy (i54 ty) (by decide) (fun y1 t1 r1 => ?_)
        have ty1 := ty.tr t1
        refine pc_put ty1.1.1 (i54 ty1) (by decide) (fun y2 t2 r2 => ?_)
        have ty2 := ty1.tr t2
        refine pc_put ty2.1.1 (i54 ty2) (by decide) (fun y3 t3 r3 => ?_)
        have ty3 := ty2.tr t3
        refine pc_cellOf (up ty3 v9v) (pc_putAtom ty3.1.1 (i54 ty3) (up ty3 v9v) (by rw [eoc ty3]; exact np) (fun y4 t4 r4 _ => ?_))
        rw [eoc ty3] at t4
        have ty4 := ty3.tr t4
        refine close ty4 (by rw [r4, r3, r2, r1]) ?_ ?_
        · rw [List.length_append, List.length_append, List.length_append, List.length_append]; omega
        · rw [eW, tl_dot np (fun q => z5 (k0.mpr q))]
          simp only [List.append_assoc, List.cons_append, List.nil_append]
    · have hpr := hr2.t z4
      rw [eoc ty] at hpr
      refine pc_put hTy (i54 ty) (by decide) (fun y1 t1 r1 => ?_)
      have ty1 := ty.tr t1
      refine pc_left ty1.1.1 (up ty1 v9v) (fun v19 vv19 e19 => ?_)
      intro _
      refine pc_right ty1.1.1 (up ty1 v9v) (fun v21 vv21 e21 => ?_)
      rw [eoc ty1, eoc ty1] at e19 e21
      intro _ _ w ew
      rw [en, show (n : Int) + 1 - 1 = (n : Int) by omega] at ew
      have gw : CG f80 f8L y1 w := by rw [ew]; exact CG_A ty1.1.1 (by omega) (by decide)
      have w56 : ∀ j, w.2.1 56 j = if j = 2000 * th + (n : Int) then v21 else y.2.1 56 j := fun j => by rw [ew, ← r1]; rfl
      have tw : TlC th u w (W ++ [32]) := by
        obtain ⟨q1, q2, q3, q4, q5, q6⟩ := ty1
        have w54 : w.2.1 54 = y1.2.1 54 := by rw [ew]; rfl
        have w55 : w.2.1 55 = y1.2.1 55 := by rw [ew]; rfl
        exact ⟨q1.tr gw, by rw [ew]; exact q2, by rw [w54]; exact q3, by unfold LtC; rw [w54, w55]; exact q4, fun j hj => by rw [w54]; exact q5 j hj, fun j hj => by rw [w55]; exact q6 j hj⟩
      refine ⟨rfl, h2, W ++ [32], tw, by rw [List.length_append]; omega, fun i hi => ?_, Or.inr ⟨vv19.same (n29 ty1).symm, ?_⟩⟩
      · rw [w56]
        split
        · exact vv21.same (n29 ty1).symm
        · exact hst i hi
      · have ep : oc u v9 = .pr (oc u v19) (oc u v21) := by
          rw [e19, e21]
          cases e : oc u v9 with
          | var x => rw [e] at hpr; cases hpr
          | op a b => rfl
        have epn : pnC u (w.2.1 56) th x2.toNat = Ob.tlM true (oc u v21) ++ pnC u (y.2.1 56) th n := by
          rw [en, show ((n : Int) + 1).toNat = n + 1 by omega]
          show Ob.tlM true (oc u (w.2.1 56 (2000 * th + (n : Int)))) ++ pnC u (w.2.1 56) th n = _
          rw [w56, if_pos rfl, pnC_congr n (fun i hi => by rw [w56, if_neg (by omega)])]
        rw [eW, epn, ep, tl_rest]
        simp only [List.append_assoc, List.cons_append, List.nil_append]
  · -- a list
    have hpr := hr2.t z2
    rw [eoc ty] at hpr
    refine pc_put hTy (i54 ty) (by decide) (fun y1 t1 r1 => ?_)
    have ty1 := ty.tr t1
    refine pc_right ty1.1.1 (up ty1 v3) (fun v21 vv21 e21 => ?_)
    intro _ _ w ew _
    have gw : CG f80 f8L y1 w := by rw [ew]; exact CG_A ty1.1.1 (by omega) (by decide)
    have w56 : ∀ j, w.2.1 56 j = if j = 2000 * th + x2 then v21 else y.2.1 56 j := fun j => by rw [ew, ← r1]; rfl
    have tw : TlC th u w (W ++ [40]) := by
      obtain ⟨q1, q2, q3, q4, q5, q6⟩ := ty1
      have w54 : w.2.1 54 = y1.2.1 54 := by rw [ew]; rfl
      have w55 : w.2.1 55 = y1.2.1 55 := by rw [ew]; rfl
      exact ⟨q1.tr gw, by rw [ew]; exact q2, by rw [w54]; exact q3, by unfold LtC; rw [w54, w55]; exact q4, fun j hj => by rw [w54]; exact q5 j hj, fun j hj => by rw [w55]; exact q6 j hj⟩
    refine pc_left tw.1.1 (up tw v3) (fun v19 vv19 e19 => ?_)
    rw [eoc tw, eoc tw] at e19
    rw [eoc ty1, eoc ty1] at e21
    intro _
    obtain ⟨n, en⟩ : ∃ n : Nat, x2 = (n : Int) := ⟨x2.toNat, by omega⟩
    rw [en] at w56 hst eW ⊢
    refine ⟨rfl, by omega, W ++ [40], tw, by rw [List.length_append]; simp; omega, fun i hi => ?_, Or.inr ⟨vv19.same (n29 tw).symm, ?_⟩⟩
    · rw [w56]
      split
      · exact vv21.same (n29 ty1).symm
      · exact hst i (by omega)
    · have ep : oc u x3 = .pr (oc u v19) (oc u v21) := by
        rw [e19, e21]
        cases e : oc u x3 with
        | var x => rw [e] at hpr; cases hpr
        | op a b => rfl
      have epn : pnC u (w.2.1 56) th ((n : Int) + 1).toNat = Ob.tlM true (oc u v21) ++ pnC u (y.2.1 56) th n := by
        rw [show ((n : Int) + 1).toNat = n + 1 by omega]
        show Ob.tlM true (oc u (w.2.1 56 (2000 * th + (n : Int)))) ++ pnC u (w.2.1 56) th n = _
        rw [w56, if_pos rfl, pnC_congr n (fun i hi => by rw [w56, if_neg (by omega)])]
      rw [ep] at nqd eW
      rw [eW, epn, tl_list nqd, Int.toNat_natCast]
      simp only [List.append_assoc, List.cons_append, List.nil_append]
