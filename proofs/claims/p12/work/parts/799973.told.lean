-- deps: 799972
/-! tell: what was taken is told, if there is room -/
theorem pt_204A [DecidableEq Ob] {x : Int} {o : Ob} {Q : Int → iST → Prop} {u v : iST} {S : Sp.St} {n : Int} (hS : CfS u S n) (g : CG f8Y f8R u v) (vx : VN v x) (ex : oc v x = o) (h29 : v.1 29 ≤ u.1 29 + 6) (hq : ∀ w, CfS w S n → KpG u w → w.1 29 ≤ u.1 29 + 6 → Q (((Ob.told o).take 2000).length : Int) w) : pv_11_tell_204 Q x v := by
  unfold pv_11_tell_204 pv_9_clear
  intro w ew
  have w1 : w.1 = v.1 := by rw [ew]; rfl
  have w2 : w.2.2 = v.2.2 := by rw [ew]; rfl
  have w3 : ∀ k, k ≠ 54 → w.2.1 k = v.2.1 k := fun k hk => by rw [ew]; exact if_neg hk
  have w54 : w.2.1 54 0 = 0 := (show w.2.1 54 0 = if (0 : Int) = 0 then 0 else v.2.1 54 0 by rw [ew]; rfl).trans (if_pos rfl)
  obtain ⟨aw, bw⟩ := CT_same (v := w) g.1 (by rw [w1]) (fun k h1 h2 => w3 k (by omega)) w2
  have ow : oc w x = o := (oc_same w2 x).trans ex
  have vw : VN w x := ⟨vx.1, by rw [w1]; exact vx.2⟩
  refine pc_write aw ⟨by rw [w54]; exact Int.le_refl _, by rw [w54]; decide⟩ vw (fun z hz => ?_)
  intro r er _
  have z1 : z.1 = w.1 := funext fun k => hz.1.2.2.1 k rfl
  have z2 : z.2.2 = w.2.2 := hz.2.1
  have z3 : ∀ k, f8L k = false → z.2.1 k = w.2.1 k := hz.1.2.2.2
  have e0 : LtC 0 w = [] := by unfold LtC; rw [w54]; rfl
  have er2 : r = (((Ob.told o).take 2000).length : Int) := by
    have h4 := congrArg List.length hz.2.2.2.1
    rw [LtC_len, ow, e0, List.nil_append] at h4
    have h4 : (z.2.1 54 0).toNat = ((Ob.told o).take 2000).length := h4
    have h3 := hz.2.2.1.1
    rw [er, ← h4]
    omega
  rw [er2]
  have zr : ∀ k, (k < 54 ∨ 56 < k) → z.2.1 k = v.2.1 k := fun k hk => by rw [z3 k (decide_eq_false (by omega)), w3 k (by omega)]
  obtain ⟨a, b⟩ := CT_same (v := z) g.1 (by rw [z1, w1]) (fun k h1 h2 => zr k (by omega)) (by rw [z2, w2])
  have g2 : CG f8Y (fun k => decide (27 ≤ k ∧ k ≤ 56)) u z := ⟨a, g.2.1.tr b, fun k hk => by rw [z1, w1]; exact g.2.2.1 k hk, fun k hk => by
    have := of_decide_eq_false hk
    rw [zr k (by omega)]
    exact g.T.2 k (by omega)⟩
  have zn : ∀ k, k ≠ 29 → k ≠ 32 → z.1 k = u.1 k := fun k h1 h2 => by rw [z1, w1]; exact g.T.1 k h1 h2
  refine hq z (hS.keep g2 (fun k hk => zn k (by omega) (by omega)) (fun k hk => by rw [zr k (by omega)]; exact g.T.2 k (by omega))) ⟨⟨zn 13 (by decide) (by decide), zn 15 (by decide) (by decide), zn 26 (by decide) (by decide), zn 50 (by decide) (by decide)⟩, fun k hk => by rw [zr k (by omega)]; exact g.T.2 k (by omega), g2.2.1, zn 0 (by decide) (by decide), zn 1 (by decide) (by decide), zn 25 (by decide) (by decide)⟩ (by rw [z1, w1]; exact h29)
theorem pt_pair [DecidableEq Ob] {l r k : Int} {Q : Int → iST → Prop} {u v : iST} (g : CG f8Y f8R u v) (h29 : v.1 29 ≤ u.1 29 + k) (hm : u.1 29 + 6 ≤ 160000) (k5 : k ≤ 5) (hl : VN v l) (hr : VN v r) (hq : ∀ x w, CG f8Y f8R u w → CG f8Y f8R v w → VN w x → oc w x = .pr (oc v l) (oc v r) → w.1 29 ≤ u.1 29 + (k + 1) → Q x w) : pv_11_pairCell l r (fun c u => pv_7_made c Q u) v := by
  refine pc_pair g.1 hl hr (by omega) (fun x w gw vx ex h => ?_)
  have gw' : CG f8Y f8R v w := gw.mono (fun j hj => decide_eq_false (fun z => of_decide_eq_false hj (Or.inl z))) (fun _ h => h)
  exact hq x w (g.tr gw') gw' vx ex (by omega)
theorem pc_tellA [DecidableEq Ob] {a : Int} {Q : Int → iST → Prop} {u : iST} {S : Sp.St} {n : Int} (hS : CfS u S n) (h29 : u.1 29 + 6 ≤ 160000) (hq : ∀ w, CfS w S n → KpG u w → w.1 29 ≤ u.1 29 + 6 → Q (Sp.tellC S.1 a) w) : pv_11_tell a Q u := by
  obtain ⟨m, h1⟩ := hS.1
  have hT := h1.1
  have h44 := hT.1.1.1
  obtain ⟨n1, n2, n3, n4, n5, n6, n7⟩ := h1.nums
  obtain ⟨k0, hk⟩ := h1.2.2.2.2.2.1
  have ll : (kdC u).length = (u.1 2).toNat := by unfold kdC; rw [List.length_map, List.length_range]
  have bad : (a < 0 ∨ u.1 2 ≤ a) → Q (-1) u := fun h => by
    have q := hq u hS (KpG.rf u) (by omega)
    unfold Sp.tellC at q
    rw [if_pos (by rw [hk, ll]; omega)] at q
    exact q
  unfold pv_11_tell
  refine ⟨fun h => bad (Or.inl h), fun h0 => ?_⟩
  intro v ev _
  rw [ev]
  refine ⟨fun h2 => ?_, fun h2 => bad (Or.inr (by omega))⟩
  have ea : ((a.toNat : Nat) : Int) = a := by omega
  have eC : Sp.tellC S.1 a = (((Ob.told (Sp.tellOb S.1 a.toNat)).take 2000).length : Int) := by
    unfold Sp.tellC
    rw [if_neg (by rw [hk, ll]; omega)]
  rw [eC] at hq
  have hgd : S.1.2.2.getD a.toNat 0 = u.2.1 14 a := by
    rw [hk, List.getD_eq_getElem?_getD, kdC_get (u := u) (k := a.toNat) (by omega), ea]
    rfl
  obtain ⟨s1, s2, s3⟩ := nd_spl (kdC_get (u := u) (k := a.toNat) (by omega))
  rw [ea] at s1
  have v0 := kn_c hT 0 (o := Ob.nil) (by decide) (by decide) rfl
  have pl := pc_place (k := a.toNat) (u := u) (by omega) (Q := fun v2 u => bdp a 100 (rd (u.2.1 14 a) (fun v3 =>
      br (v3 ≠ 1) (
        bdp v2 60 (rd (u.2.1 6 v2) (fun v4 =>
        pv_11_pairCell v4 0 (fun v5 u =>
        pv_7_made v5 (fun v6 u =>
        bdp v2 60 (rd (u.2.1 5 v2) (fun v7 =>
        pv_11_pairCell v7 v6 (fun v8 u =>
        pv_7_made v8 (fun v9 u =>
        pv_11_pairCell 27 v9 (fun v10 u =>
        pv_7_made v10 (fun v11 u =>
        pv_11_tell_204 Q v11 u) u) u) u) u))) u) u))) (
        bdp v2 40 (rd (u.2.1 4 v2) (fun v15 =>
        br (v15 ≠ (-1)) (
          pv_11_pairCell v15 0 (fun v16 u =>
          pv_7_made v16 (fun v17 u =>
          pv_11_tell_73 Q v2 v17 u) u) u) (
          pv_11_tell_73 Q v2 0 u))))))) ?_
  · rw [ea] at pl
    exact pl
  · rw [ea]
    intro _ _ kd ekd _
    rw [ekd]
    refine ⟨fun hk1 => ?_, fun hk1 => ?_⟩
    · rw [if_neg hk1] at s1 ⊢
      generalize hp : (((a.toNat - Sp.nd ((kdC u).take a.toNat) : Nat)) : Int) = p
      have p0 : 0 ≤ p := by omega
      have p1 : p < u.1 1 := by omega
      obtain ⟨th, ⟨t, et, en, ef, _⟩, _⟩ := h1.2.2.1.2 p.toNat (by omega)
      rw [show ((p.toNat : Nat) : Int) = p by omega] at th en ef
      have et : S.1.2.1[p.toNat]? = some t := et
      have eO : Sp.tellOb S.1 a.toNat = .pr Ob.thmS (.pr (oc u (u.2.1 5 p)) (.pr (oc u (u.2.1 6 p)) Ob.nil)) := by
        unfold Sp.tellOb
        rw [if_neg (by rw [hgd]; exact hk1), hk, show a.toNat - Sp.nd ((kdC u).take a.toNat) = p.toNat by omega, et]
        show Ob.pr Ob.thmS (.pr t.name (.pr t.form Ob.nil)) = _
        rw [en, ef]
      intro _ _ f ef' _
      rw [ef']
      refine pt_pair (k := 0) (CG.rf hT) (by omega) h29 (by omega) th.2.1 v0.1 (fun x1 v1 g1 _ k1 e1 l1 => ?_)
      intro _ _ nm enm _
      rw [enm, g1.T.2 5 (by omega)]
      refine pt_pair g1 l1 h29 (by omega) (th.1.up g1) k1 (fun x2 v2 g2 _ k2 e2 l2 => ?_)
      have v27 := kn_c g2.1 27 (o := Ob.thmS) (by decide) (by decide) rfl
      refine pt_pair g2 l2 h29 (by omega) v27.1 k2 (fun x3 v3 g3 _ k3 e3 l3 => ?_)
      exact pt_204A hS g3 k3 (by rw [e3, v27.2, e2, e1, v0.2, g1.oc hT th.1.1 th.1.2, eO]) (by omega) hq
    · have hk1 : u.2.1 14 a = 1 := Decidable.not_not.mp hk1
      rw [if_pos hk1] at s1 ⊢
      generalize hp : ((Sp.nd ((kdC u).take a.toNat) : Nat) : Int) = p
      have p0 : 0 ≤ p := by omega
      have p1 : p < u.1 0 := by omega
      obtain ⟨d1, d2, d3, d4, d5⟩ := h1.2.1.2.2 p p0 p1
      have eD : S.1.1 = dfsC u := h1.2.1.1
      have eO : Sp.tellOb S.1 a.toNat = .pr Ob.defun (.pr (oc u (u.2.1 0 p)) (.pr (oc u (u.2.1 1 p)) (.pr (oc u (u.2.1 3 p)) (if u.2.1 4 p = -1 then Ob.nil else .pr (oc u (u.2.1 4 p)) Ob.nil)))) := by
        unfold Sp.tellOb
        rw [if_pos (by rw [hgd]; exact hk1), hk, show Sp.nd ((kdC u).take a.toNat) = p.toNat by omega, eD]
        unfold dfsC
        rw [List.getElem?_map, List.getElem?_range (by omega)]
        show Ob.pr Ob.defun (.pr (dfnC u ((p.toNat : Nat) : Int)).name (.pr (Ob.ofList (dfnC u ((p.toNat : Nat) : Int)).params) (.pr (dfnC u ((p.toNat : Nat) : Int)).body (match (dfnC u ((p.toNat : Nat) : Int)).meas with | some M => .pr M Ob.nil | none => Ob.nil)))) = _
        rw [show ((p.toNat : Nat) : Int) = p by omega]
        show Ob.pr Ob.defun (.pr (oc u (u.2.1 0 p)) (.pr (Ob.ofList (Ob.toList (oc u (u.2.1 1 p)))) (.pr (oc u (u.2.1 3 p)) (match (if u.2.1 4 p = -1 then none else some (oc u (u.2.1 4 p))) with | some M => .pr M Ob.nil | none => Ob.nil)))) = _
        rw [Ob.ofList_toList _ (by have := d3.2.1; have := d3.2.2.1; omega)]
        by_cases q : u.2.1 4 p = -1
        · rw [if_pos q, if_pos q]
        · rw [if_neg q, if_neg q]
      have key : ∀ (y k : Int) (v : iST), CG f8Y f8R u v → VN v y → oc v y = (if u.2.1 4 p = -1 then Ob.nil else .pr (oc u (u.2.1 4 p)) Ob.nil) → v.1 29 ≤ u.1 29 + k → k ≤ 1 → pv_11_tell_73 Q p y v := by
        intro y k v g hy ey lv hk2
        unfold pv_11_tell_73
        intro _ _ ps eps _ _ _ bd ebd _
        rw [eps, ebd, g.T.2 1 (by omega), g.T.2 3 (by omega)]
        refine pt_pair g lv h29 (by omega) (d4.up g) hy (fun x1 v1 g1 _ k1 e1 l1 => ?_)
        refine pt_pair g1 l1 h29 (by omega) (d3.1.up g1) k1 (fun x2 v2 g2 _ k2 e2 l2 => ?_)
        intro _ _ nm enm _
        rw [enm, g2.T.2 0 (by omega)]
        refine pt_pair g2 l2 h29 (by omega) (d1.up g2) k2 (fun x3 v3 g3 _ k3 e3 l3 => ?_)
        have v20 := kn_c g3.1 20 (o := Ob.defun) (by decide) (by decide) rfl
        refine pt_pair g3 l3 h29 (by omega) v20.1 k3 (fun x4 v4 g4 _ k4 e4 l4 => ?_)
        exact pt_204A hS g4 k4 (by rw [e4, v20.2, e3, e2, e1, ey, g2.oc hT d1.1 d1.2, g1.oc hT d3.1.1 d3.1.2, g.oc hT d4.1 d4.2, eO]) (by omega) hq
      intro _ _ ms ems _
      rw [ems]
      refine ⟨fun hm => ?_, fun hm => key 0 0 u (CG.rf hT) v0.1 (by rw [if_pos (Decidable.not_not.mp hm)]; exact v0.2) (by omega) (by omega)⟩
      refine pt_pair (k := 0) (CG.rf hT) (by omega) h29 (by omega) (d5 hm) v0.1 (fun x1 v1 g1 _ k1 e1 l1 => ?_)
      exact key x1 (0 + 1) v1 g1 k1 (by rw [if_neg hm, e1, v0.2]) l1 (by omega)
/-- tell, between calls -/
theorem pc_tellN [DecidableEq Ob] {a : Int} {Q : Int → iST → Prop} {u : iST} {S : Sp.St} {n : Int} (hn : n ≤ 15440) (hC : CfN u S n) (hq : ∀ w, CfN w S (n + 30) → Q (Sp.tellC S.1 a) w) : pv_11_tell a Q u := by
  have h9 := hC.2.2.2
  refine pc_tellA hC.1 (by omega) (fun w h k w29 => hq w (k.cf hC ?_ rfl (by omega)))
  obtain ⟨a1, a2, a3, a4, a5, a6, a7, a8⟩ := h
  exact ⟨a1, a2, a3, a4, a5, a6, a7, by omega⟩
