-- deps: 7998993
/-! calls that leave the house as it is: tell, fault, size, letter, count -/
theorem CfS.keep [DecidableEq Ob] {nm rm : Nat → Bool} {u v : iST} {S : Sp.St} {n : Int} (h : CfS u S n) (g : CG nm rm u v) (hn : ∀ k, (k ≤ 3 ∨ k = 27 ∨ k = 37 ∨ k = 42 ∨ k = 43 ∨ k = 48 ∨ k = 50) → v.1 k = u.1 k) (hr : ∀ k, (k ≤ 15 ∨ k = 44 ∨ k = 45 ∨ k = 50 ∨ k = 57) → v.2.1 k = u.2.1 k) : CfS v S n := by
  obtain ⟨⟨m, h1⟩, h2, h3, ⟨h4, h4b, h4c⟩, h5, h6, h7, h8⟩ := h
  have e42 := hn 42 (by omega)
  have e44 := hr 44 (by omega)
  have e5 : wt5 v = wt5 u := by unfold wt5; rw [hr 45 (by omega)]
  refine ⟨⟨m, h1.keep g (fun k hk => hn k (by omega)) (fun k hk => hr k (by omega))⟩, h2, ⟨h3.1, by rw [hn 43 (by omega)]; exact h3.2⟩, ⟨by rw [e42]; exact h4, ?_, ?_⟩, by rw [e5]; exact h5, by rw [hn 48 (by omega)]; exact h6, by rw [hn 50 (by omega)]; exact h7, ?_⟩
  · rw [e42]
    intro i i0 i1
    rw [e44]
    exact h4b i i0 i1
  · rw [e42, txN_same e44]
    exact h4c
  · have : wzC v = wzC u := by unfold wzC; rw [e5]
    rw [this, hn 3 (by omega)]
    exact h8
def f8Y (k : Nat) : Bool := decide (k = 29 ∨ k = 32)
/-- a node, or node 0 if the room is full -/
theorem pc_madeT [DecidableEq Ob] {c : Int} {Q : Int → iST → Prop} {u : iST} (hT : CT u) (ok : CellOk (u.1 29) c) (hq : ∀ k v, CG f8Y f8R u v → VN v k → Q k v) : pv_7_made c Q u := by
  by_cases hr : u.1 29 < 160000
  · exact pc_made hT hr ok (fun k v g k0 k1 _ _ => hq k v (g.mono (fun j hj => decide_eq_false (fun z => of_decide_eq_false hj (Or.inl z))) (fun _ h => h)) ⟨k0, k1⟩)
  · have h44 := hT.1.1.1
    have hH := hT.2.1
    have hsl := cSl_r c
    unfold pv_7_made
    intro v1 e1 _ v2 e2 _ v3 e3 _ _ _ v4 e4 _
    have e3 : v3 = cSl c := by rw [e3, e2, e1]; rfl
    rw [e3] at e4 ⊢
    obtain ⟨b1, b2, b3, b4⟩ := hH.2 (cSl c) hsl.1 hsl.2
    refine pv_7_made_18_i (fun x1 x3 x4 y => y = u ∧ x4 < u.1 29) ?_ ⟨rfl, by omega⟩
    rintro x1 x3 x4 y ⟨fy, a1⟩
    rw [fy]
    unfold pv_7_made_18b
    refine ⟨fun hneg => ?_, fun hpos => ?_⟩
    · intro n en _
      rw [en]
      refine ⟨fun z => absurd z hr, fun _ => ?_⟩
      have full : ∀ x, pv_7_made_75 Q x u := by
        intro x
        unfold pv_7_made_75
        intro w ew
        have g : CG f8Y f8R u w := by rw [ew]; exact CG_I hT (by decide) (by decide)
        have := g.le
        exact hq 0 w g ⟨Int.le_refl _, by omega⟩
      intro a ea _
      exact ⟨fun _ => fun b eb _ => full b, fun _ => full 4⟩
    · intro _ _ a ea _
      refine ⟨fun hne => ?_, fun heq => hq x4 u (CG.rf hT) ⟨by omega, a1⟩⟩
      intro _ _ t et _
      obtain ⟨d1, d2, d3, d4⟩ := hH.1 x4 (by omega) a1
      exact ⟨rfl, by omega⟩
theorem pc_pairT [DecidableEq Ob] {l r : Int} {Q : Int → iST → Prop} {u : iST} (hT : CT u) (hl : l < u.1 29) (hr : r < u.1 29) (hq : ∀ k v, CG f8Y f8R u v → VN v k → Q k v) : pv_11_pairCell l r (fun c u => pv_7_made c Q u) u := by
  have h16 := hT.1.1.2
  have h44 := hT.1.1.1
  have key : ∀ l', 0 ≤ l' → l' < u.1 29 → pv_11_pairCell_12 (fun c u => pv_7_made c Q u) r (-9223372036854775808) l' u := by
    intro l' l0 l1
    have fin : ∀ r', 0 ≤ r' → r' < u.1 29 → ∀ c, c = wlor (wlor (-9223372036854775808) (wlshl l' 31)) r' → inL c → pv_7_made c Q u := by
      intro r' r0 r1 c ec hc
      obtain ⟨q1, q2, q3⟩ := cell_pair l0 (show l' < 2147483648 by omega) r0 (show r' < 2147483648 by omega)
      rw [ec] at hc
      have q4 := cell_pairC l0 (show l' < 2147483648 by omega) r0 (show r' < 2147483648 by omega) hc
      rw [← ec] at q1 q2 q3 q4
      exact pc_madeT hT ⟨fun _ => ⟨by rw [q2]; exact l1, by rw [q3]; exact r1, by rw [q2, q3]; exact q4⟩, fun z => by omega⟩ hq
    unfold pv_11_pairCell_12
    intro a ea _ b eb _
    refine ⟨fun h => ?_, fun h => ?_⟩
    · intro c ec hc
      exact fin r h hr c (by rw [ec, eb, ea]) hc
    · intro c ec hc
      exact fin 0 (Int.le_refl _) (by omega) c (by rw [ec, eb, ea]) hc
  unfold pv_11_pairCell
  exact ⟨fun h => key l h hl, fun h => key 0 (Int.le_refl _) (by omega)⟩
theorem CG.T [DecidableEq Ob] {u v : iST} (g : CG f8Y f8R u v) : (∀ k, k ≠ 29 → k ≠ 32 → v.1 k = u.1 k) ∧ ∀ k, (k < 27 ∨ 30 < k) → v.2.1 k = u.2.1 k := ⟨fun k h1 h2 => g.2.2.1 k (decide_eq_false (by omega)), fun k hk => g.2.2.2 k (decide_eq_false (by omega))⟩
theorem nd_spl [DecidableEq Ob] {l : List Int} {k : Nat} {c : Int} (h : l[k]? = some c) : Sp.nd l = Sp.nd (l.take k) + (if c = 1 then 1 else 0) + Sp.nd (l.drop (k + 1)) ∧ Sp.nd (l.drop (k + 1)) + (k + 1) ≤ l.length ∧ Sp.nd (l.take k) ≤ k := by
  have h1 := nd_take l k c h
  have h2 : Sp.nd l = Sp.nd (l.take (k + 1)) + Sp.nd (l.drop (k + 1)) := by rw [← nd_app, List.take_append_drop]
  have h3 := nd_le (l.drop (k + 1))
  rw [List.length_drop] at h3
  have h4 := nd_le (l.take k)
  have h5 := List.length_take_le k l
  have h6 : k < l.length := by
    rw [List.getElem?_eq_some_iff] at h
    exact h.1
  exact ⟨by omega, by omega, by omega⟩
theorem pt_204 [DecidableEq Ob] {x : Int} {Q : Int → iST → Prop} {u v : iST} {S : Sp.St} {n : Int} (hS : CfS u S n) (g : CG f8Y f8R u v) (hq : ∀ r w, CfS w S n → KpG u w → Q r w) : pv_11_tell_204 Q x v := by
  unfold pv_11_tell_204 pv_9_clear
  intro w ew
  refine pf_write (fun z hz => ?_)
  intro r er _
  obtain ⟨z1, z2, z3⟩ := hz
  have w1 : w.1 = v.1 := by rw [ew]; rfl
  have w2 : w.2.2 = v.2.2 := by rw [ew]; rfl
  have w3 : ∀ k, k ≠ 54 → w.2.1 k = v.2.1 k := fun k hk => by rw [ew]; exact if_neg hk
  have zr : ∀ k, (k < 54 ∨ 56 < k) → z.2.1 k = v.2.1 k := fun k hk => by rw [z3 k (decide_eq_false (by omega)), w3 k (by omega)]
  obtain ⟨a, b⟩ := CT_same (v := z) g.1 (by rw [z1, w1]) (fun k h1 h2 => zr k (by omega)) (by rw [z2, w2])
  have g2 : CG f8Y (fun k => decide (27 ≤ k ∧ k ≤ 56)) u z := ⟨a, g.2.1.tr b, fun k hk => by rw [z1, w1]; exact g.2.2.1 k hk, fun k hk => by
    have := of_decide_eq_false hk
    rw [zr k (by omega)]
    exact g.T.2 k (by omega)⟩
  refine hq r z (hS.keep g2 (fun k hk => by rw [z1, w1]; exact g.T.1 k (by omega) (by omega)) (fun k hk => by rw [zr k (by omega)]; exact g.T.2 k (by omega))) ⟨⟨by rw [z1, w1]; exact g.T.1 13 (by decide) (by decide), by rw [z1, w1]; exact g.T.1 15 (by decide) (by decide), by rw [z1, w1]; exact g.T.1 26 (by decide) (by decide), by rw [z1, w1]; exact g.T.1 50 (by decide) (by decide)⟩, fun k hk => by rw [zr k (by omega)]; exact g.T.2 k (by omega), g2.2.1, by rw [z1, w1]; exact g.T.1 0 (by decide) (by decide), by rw [z1, w1]; exact g.T.1 1 (by decide) (by decide), by rw [z1, w1]; exact g.T.1 25 (by decide) (by decide)⟩
theorem pc_tellS [DecidableEq Ob] {a : Int} {Q : Int → iST → Prop} {u : iST} {S : Sp.St} {n : Int} (hS : CfS u S n) (hq : ∀ r w, CfS w S n → KpG u w → Q r w) : pv_11_tell a Q u := by
  obtain ⟨m, h1⟩ := hS.1
  have hT := h1.1
  have h44 := hT.1.1.1
  obtain ⟨n1, n2, n3, n4, n5, n6, n7⟩ := h1.nums
  obtain ⟨k0, hk⟩ := h1.2.2.2.2.2.1
  unfold pv_11_tell
  refine ⟨fun _ => hq _ u hS (KpG.rf u), fun h0 => ?_⟩
  intro v ev _
  rw [ev]
  refine ⟨fun h2 => ?_, fun _ => hq _ u hS (KpG.rf u)⟩
  have ea : ((a.toNat : Nat) : Int) = a := by omega
  obtain ⟨s1, s2, s3⟩ := nd_spl (kdC_get (u := u) (k := a.toNat) (by omega))
  have ll : (kdC u).length = (u.1 2).toNat := by unfold kdC; rw [List.length_map, List.length_range]
  rw [ea] at s1
  have pl := pc_place (k := a.toNat) (u := u) (by omega) (Q := fun v2 u => bdp a 100 (rd (u.2.1 14 a) (fun v3 =>
      br (v3 ≠ 1) (
        bdp v2 60 (rd (u.2.1 6 v2) (fun v4 =>
        pv_11_pairCell v4 0 (fun v5 u =>
        pv_7_made v5 (fun v6 u =>
        bdp v2 60 (rd (u.2.1 5 v2) (fun v7 =>
        pv_11_pairCell v7 v6 (fun v8 u =>
        pv_7_made v8 (fun v9 u =>
        pv_11_pairCell 27 v9 (fun v10 u =>
        pv_7_made v10 (fun v11 u =>
        pv_11_tell_204 Q v11 u) u) u) u) u))) u) u))) (
        bdp v2 40 (rd (u.2.1 4 v2) (fun v15 =>
        br (v15 ≠ (-1)) (
          pv_11_pairCell v15 0 (fun v16 u =>
          pv_7_made v16 (fun v17 u =>
          pv_11_tell_73 Q v2 v17 u) u) u) (
          pv_11_tell_73 Q v2 0 u))))))) ?_
  · rw [ea] at pl
    exact pl
  · rw [ea]
    intro _ _ kd ekd _
    rw [ekd]
    refine ⟨fun hk1 => ?_, fun hk1 => ?_⟩
    · rw [if_neg hk1] at s1 ⊢
      generalize hp : (((a.toNat - Sp.nd ((kdC u).take a.toNat) : Nat)) : Int) = p
      have p0 : 0 ≤ p := by omega
      have p1 : p < u.1 1 := by omega
      have th := (h1.2.2.1.2 p.toNat (by omega)).1
      rw [show ((p.toNat : Nat) : Int) = p by omega] at th
      intro _ _ f ef _
      rw [ef]
      refine pc_pairT hT th.2.1.2 (by omega) (fun x1 v1 g1 k1 => ?_)
      intro _ _ nm enm _
      rw [enm, g1.T.2 5 (by omega)]
      have l1 := g1.le
      have t5 := th.1.2
      refine pc_pairT g1.1 (by omega) k1.2 (fun x2 v2 g2 k2 => ?_)
      have l2 := g2.le
      refine pc_pairT g2.1 (by omega) k2.2 (fun x3 v3 g3 k3 => ?_)
      exact pt_204 hS ((g1.tr g2).tr g3) hq
    · have hk1 : u.2.1 14 a = 1 := Decidable.not_not.mp hk1
      rw [if_pos hk1] at s1 ⊢
      generalize hp : ((Sp.nd ((kdC u).take a.toNat) : Nat) : Int) = p
      have p0 : 0 ≤ p := by omega
      have p1 : p < u.1 0 := by omega
      obtain ⟨d1, d2, d3, d4, d5⟩ := h1.2.1.2.2 p p0 p1
      have key : ∀ (y : Int) (v : iST), CG f8Y f8R u v → y < v.1 29 → pv_11_tell_73 Q p y v := by
        intro y v g hy
        have lg := g.le
        have e0 := d1.2
        have e1 := d3.1.2
        have e3 := d4.2
        unfold pv_11_tell_73
        intro _ _ ps eps _ _ _ bd ebd _
        rw [eps, ebd, g.T.2 1 (by omega), g.T.2 3 (by omega)]
        refine pc_pairT g.1 (by omega) hy (fun x1 v1 g1 k1 => ?_)
        have l1 := g1.le
        refine pc_pairT g1.1 (by omega) k1.2 (fun x2 v2 g2 k2 => ?_)
        have l2 := g2.le
        intro _ _ nm enm _
        rw [enm, g2.T.2 0 (by omega), g1.T.2 0 (by omega), g.T.2 0 (by omega)]
        refine pc_pairT g2.1 (by omega) k2.2 (fun x3 v3 g3 k3 => ?_)
        have l3 := g3.le
        refine pc_pairT g3.1 (by omega) k3.2 (fun x4 v4 g4 k4 => ?_)
        exact pt_204 hS ((((g.tr g1).tr g2).tr g3).tr g4) hq
      intro _ _ ms ems _
      rw [ems]
      refine ⟨fun hm => ?_, fun hm => key 0 u (CG.rf hT) (by omega)⟩
      exact pc_pairT hT (d5 hm).2 (by omega) (fun x1 v1 g1 k1 => key x1 v1 g1 k1.2)
theorem pc_faultS [DecidableEq Ob] {a : Int} {Q : Int → iST → Prop} {u : iST} (hq : ∀ r, Q r u) : pv_11_fault a Q u := by
  unfold pv_11_fault
  exact ⟨fun _ => fun v _ _ => hq v, fun _ => ⟨fun _ => fun v _ _ => hq v, fun _ => ⟨fun _ => fun v _ _ => hq v, fun _ => hq _⟩⟩⟩
theorem pc_sizeS [DecidableEq Ob] {Q : Int → iST → Prop} {u : iST} (hq : ∀ r, Q r u) : pv_11_size Q u := by
  unfold pv_11_size
  exact fun v _ _ => hq v
theorem pc_letterS [DecidableEq Ob] {a : Int} {Q : Int → iST → Prop} {u : iST} (hq : ∀ r, Q r u) : pv_11_letter a Q u := by
  unfold pv_11_letter
  exact ⟨fun _ => hq _, fun _ => fun v _ _ => ⟨fun _ => hq _, fun _ => fun _ _ => fun x _ _ => hq x⟩⟩
/-- what count answers, but for LEFT -/
theorem pc_countS [DecidableEq Ob] {a : Int} {Q : Int → iST → Prop} {u : iST} {S : Sp.St} {n : Int} (hS : CfS u S n) (hq : a ≠ 4 → Q (Sp.countC S a) u) (h4 : a = 4 → Q (u.1 15) u) : pv_11_count a Q u := by
  obtain ⟨m, h1⟩ := hS.1
  obtain ⟨n1, n2, n3, n4, n5, n6, n7⟩ := h1.nums
  unfold Sp.countC at hq
  unfold pv_11_count
  refine ⟨fun h => ?_, fun h0 => ⟨fun h => ?_, fun h1' => ⟨fun h => ?_, fun h2 => ⟨fun h => ?_, fun h3 => ⟨fun h => ?_, fun h4' => ?_⟩⟩⟩⟩⟩
  · have q := hq (by omega)
    rw [if_pos h] at q
    intro v ev _
    rw [ev, ← n3]
    exact q
  · have q := hq (by omega)
    rw [if_neg h0, if_pos h] at q
    intro v ev _
    rw [ev, ← n4]
    exact q
  · have q := hq (by omega)
    rw [if_neg h0, if_neg h1', if_pos h] at q
    exact pc_rules h1.2.2.1 (Or.inl rfl) q
  · have q := hq (by omega)
    rw [if_neg h0, if_neg h1', if_neg h2, if_pos h] at q
    exact pc_rules h1.2.2.1 (Or.inr rfl) q
  · intro v ev _
    rw [ev]
    exact h4 h
  · have q := hq h4'
    rw [if_neg h0, if_neg h1', if_neg h2, if_neg h3, if_neg h4'] at q
    exact q
