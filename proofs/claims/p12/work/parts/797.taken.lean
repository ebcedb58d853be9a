-- deps: 796
/-! the class: a theorem is taken -/
theorem Th1c.pt [DecidableEq Ob] {n r : Nat → Bool} {u v : iST} {E : Sp.Env} {j : Int} (h : Th1c u E j) (hT : CT u) (g : CG n r u v) (hr : ∀ k, 5 ≤ k → k ≤ 12 → v.2.1 k j = u.2.1 k j) (h50 : ∀ i, i < 60 → v.2.1 50 (60 * j + i) = u.2.1 50 (60 * j + i)) : Th1c v E j ∧ rulC v j = rulC u j ∧ oc v (v.2.1 5 j) = oc u (u.2.1 5 j) ∧ oc v (v.2.1 6 j) = oc u (u.2.1 6 j) := by
  obtain ⟨b1, b2, b3⟩ := h
  have o5 : oc v (u.2.1 5 j) = oc u (u.2.1 5 j) := g.oc hT b1.1 b1.2
  have o6 : oc v (u.2.1 6 j) = oc u (u.2.1 6 j) := g.oc hT b2.1 b2.2
  unfold Th1c rulC hypC
  rw [hr 5 (by omega) (by omega), hr 6 (by omega) (by omega), hr 7 (by omega) (by omega), hr 8 (by omega) (by omega), hr 9 (by omega) (by omega), hr 10 (by omega) (by omega), hr 11 (by omega) (by omega), hr 12 (by omega) (by omega)]
  refine ⟨⟨b1.up g, b2.up g, fun z => ?_⟩, ?_, o5, o6⟩
  · obtain ⟨c1, c2, c3, c4, c5, c6⟩ := b3 z
    have u1 := c1.up hT g
    have u3 := c3.up hT g
    refine ⟨u1.1, by rw [u1.2]; exact c2, u3.1, c4, by rw [u1.2, u3.2]; exact c5, fun i i0 i1 => ?_⟩
    rw [h50 i (by omega), u1.2]
    have u6 := (c6 i i0 i1).1.up hT g
    exact ⟨u6.1, by rw [u6.2]; exact (c6 i i0 i1).2⟩
  · by_cases z : u.2.1 7 j = -1
    · rw [if_pos z, if_pos z]
    · rw [if_neg z, if_neg z]
      obtain ⟨c1, c2, c3, c4, c5, c6⟩ := b3 z
      rw [(c1.up hT g).2, (c3.up hT g).2]
      have e : (List.range (u.2.1 9 j).toNat).map (fun i : Nat => oc v (v.2.1 50 (60 * j + (i : Int)))) = (List.range (u.2.1 9 j).toNat).map (fun i : Nat => oc u (u.2.1 50 (60 * j + (i : Int)))) := List.map_congr_left (fun i hi => by
        have := List.mem_range.mp hi
        rw [h50 _ (by omega)]
        exact ((c6 (i : Int) (by omega) (by omega)).1.up hT g).2)
      rw [e]
/-- a rule's nodes are as old as its formula's -/
theorem rule_low [DecidableEq Ob] {w : iST} {E : Sp.Env} {r b mk : Int} (hT : CT w) (vb : VN w b) (hb : b < mk) (h44 : 44 ≤ mk) (hR : RuC w E r (Sp.ruleOf (oc w b))) : w.2.1 7 r ≠ -1 → w.2.1 7 r < mk ∧ w.2.1 8 r < mk ∧ ∀ i, 0 ≤ i → i < w.2.1 9 r → w.2.1 50 (60 * r + i) < mk := fun z => by
  obtain ⟨e, q⟩ := hR
  obtain ⟨c1, c2, c3, c4, c5, c6⟩ := q z
  unfold rulC at e
  rw [if_neg z] at e
  obtain ⟨s1, s2, s3⟩ := ruleOf_sub e.symm
  have k0 : ∀ x, VN w x → oc w x = Ob.nil → x < mk := fun x vx ex => by
    have := (oc_nil hT vx).mpr ex
    omega
  have k1 : ∀ x, VN w x → oc w x = Ob.t → x < mk := fun x vx ex => by
    have := (katC hT 1 (o := Ob.t) (by decide) (by decide) rfl vx.1 vx.2).mpr ex
    omega
  have ks : ∀ x, VN w x → subO (oc w x) (oc w b) → x < mk := fun x vx sx => by
    have := node_low hT vb vx sx
    omega
  refine ⟨?_, ?_, fun i i0 i1 => ?_⟩
  · rcases s1 with p | p
    · exact ks _ c1.1 p
    · exact k0 _ c1.1 p
  · rcases s2 with p | p | p
    · exact ks _ c3.1 p
    · exact k0 _ c3.1 p
    · exact k1 _ c3.1 p
  · refine ks _ (c6 i i0 i1).1.1 (s3 _ ?_)
    show _ ∈ hypC w r
    unfold hypC
    exact List.mem_map.mpr ⟨i.toNat, List.mem_range.mpr (by omega), by rw [show ((i.toNat : Nat) : Int) = i by omega]⟩
def mutC [DecidableEq Ob] (w : iST) : List Ob := ((List.range (w.1 1).toNat).filter (fun i : Nat => decide (w.2.1 13 (i : Int) ≠ 0))).map (fun i : Nat => oc w (w.2.1 5 (i : Int)))
def f8Tn (k : Nat) : Bool := decide (1 ≤ k ∧ k ≤ 3) || decide (k = 39)
def f8Tr (k : Nat) : Bool := decide (5 ≤ k ∧ k ≤ 12) || decide (14 ≤ k ∧ k ≤ 15) || decide (35 ≤ k ∧ k ≤ 43) || decide (k = 50)
theorem HC_thm [DecidableEq Ob] {u w : iST} {H : Sp.Hs} {m : List Ob} {a b mk c : Int} (h : HC u H m) (hc : c ≠ 1) (hO : Sp.HOk (Sp.addThm H (oc u a) (oc u b) c)) (h60 : H.2.1.length < 60) (g : CG f8Tn f8Tr u w) (w1 : w.1 1 = u.1 1 + 1) (w2 : w.1 2 = u.1 2 + 1) (w3 : w.1 3 = mk) (m1 : u.1 3 ≤ mk) (m2 : mk ≤ u.1 29) (hr : ∀ k, 5 ≤ k → k ≤ 12 → ∀ j, j ≠ u.1 1 → w.2.1 k j = u.2.1 k j) (h50 : ∀ i, i < 60 * u.1 1 → w.2.1 50 i = u.2.1 50 i)
    (e5 : w.2.1 5 (u.1 1) = a) (e6 : w.2.1 6 (u.1 1) = b) (hR : RuC w (H.env m) (u.1 1) (Sp.ruleOf (oc w b))) (r14 : ∀ i, w.2.1 14 i = if i = u.1 2 then c else u.2.1 14 i) (r15 : ∀ i, w.2.1 15 i = if i = u.1 2 then u.1 3 else u.2.1 15 i) (va : VN u a ∧ a < mk) (nb : NdC u (H.env m) b) (hb : b < mk) : ∃ m', HC w (Sp.addThm H (oc u a) (oc u b) c) m' := by
  obtain ⟨nm1, nm2, nm3, nm4, nm5, nm6, nm7⟩ := h.nums
  have hT := h.1
  have w29 : w.1 29 = u.1 29 := g.2.2.1 29 (by decide)
  have h44 : 44 ≤ u.1 3 := h.2.2.2.2.2.2.1.1.1
  have rD : ∀ k, k ≤ 4 → w.2.1 k = u.2.1 k := fun k hk => g.2.2.2 k (by unfold f8Tr; simp only [Bool.or_eq_false_iff, decide_eq_false_iff_not]; omega)
  have r13 : w.2.1 13 = u.2.1 13 := g.2.2.2 13 (by decide)
  have ea : oc w a = oc u a := g.oc hT va.1.1 va.1.2
  have ub := nb.up hT g
  have rl := rule_low g.1 ub.1.1 hb (by omega) hR
  have p50 : ∀ j, j < u.1 1 → ∀ i, i < 60 → w.2.1 50 (60 * j + i) = u.2.1 50 (60 * j + i) := fun j hj i hi => h50 _ (by omega)
  have gm := MkC_grow (c := c) h w29 w2 w3 m1 m2 r14 r15 (fun d d0 d1 M hL => by
      unfold LowD at hL ⊢
      rw [rD 0 (by omega), rD 1 (by omega), rD 3 (by omega), rD 4 (by omega)]
      exact hL) (fun k k0 k1 M hL => by
      unfold LowT at hL ⊢
      rw [hr 5 (by omega) (by omega) k (by omega), hr 6 (by omega) (by omega) k (by omega), hr 7 (by omega) (by omega) k (by omega), hr 8 (by omega) (by omega) k (by omega), hr 9 (by omega) (by omega) k (by omega)]
      refine ⟨hL.1, hL.2.1, fun z => ⟨(hL.2.2 z).1, (hL.2.2 z).2.1, fun i i0 i1 => ?_⟩⟩
      have hle : u.2.1 9 k ≤ 60 := by
        have := ((h.2.2.1.2 k.toNat (by omega)).1.2.2 (by rw [show ((k.toNat : Nat) : Int) = k by omega]; exact z)).2.2.2.1.2
        rw [show ((k.toNat : Nat) : Int) = k by omega] at this
        exact this
      rw [p50 k k1 i (by omega)]
      exact (hL.2.2 z).2.2 i i0 i1) (fun z => absurd z hc) (fun _ => by
      unfold LowT
      rw [e5, e6]
      exact ⟨va.2, hb, rl⟩)
  obtain ⟨_, hD, hTo, hF, ⟨_, l40, l60⟩, ⟨k0, hk⟩, hM, ⟨a37, a27⟩, hP⟩ := h
  have wf := HOk.wf hO
  -- all theorems
  have all : ∀ r : Nat, (r : Int) < w.1 1 → Th1c w (H.env m) (r : Int) ∧ ∃ k, (H.2.1 ++ [(oc u a, oc u b, c, Sp.ruleOf (oc u b))])[r]? = some k ∧ thC w (r : Int) k := fun r hrr => by
    by_cases e : (r : Int) = u.1 1
    · rw [e]
      refine ⟨⟨by rw [e5]; exact va.1.up g, by rw [e6]; exact ub.1.1, hR.2⟩, (oc u a, oc u b, c, Sp.ruleOf (oc u b)), ?_, ?_, ?_, ?_⟩
      · rw [List.getElem?_append_right (by omega), show r - H.2.1.length = 0 by omega]
        rfl
      · rw [e5, ea]
      · rw [e6, ub.2]
      · rw [hR.1, ub.2]
    · obtain ⟨b1, ⟨k, hk1, hk2⟩, b3⟩ := hTo.2 r (by omega)
      obtain ⟨q1, q2, q3, q4⟩ := b1.pt hT g (fun k h1 h2 => hr k h1 h2 _ e) (p50 _ (by omega))
      refine ⟨q1, k, ?_, ?_, ?_, ?_⟩
      · rw [List.getElem?_append_left (by omega)]
        exact hk1
      · rw [q3]; exact hk2.1
      · rw [q4]; exact hk2.2.1
      · rw [q2]; exact hk2.2.2
  have len : ((H.2.1 ++ [(oc u a, oc u b, c, Sp.ruleOf (oc u b))]).length : Int) = w.1 1 := by
    rw [List.length_append]
    show ((H.2.1.length + 1 : Nat) : Int) = w.1 1
    omega
  have hNm : ∀ r r' : Nat, (r : Int) < w.1 1 → (r' : Int) < w.1 1 → oc w (w.2.1 5 (r : Int)) = oc w (w.2.1 5 (r' : Int)) → r = r' := fun r r' h1 h2 he => by
    obtain ⟨_, k, hk1, hk2⟩ := all r h1
    obtain ⟨_, k', hk1', hk2'⟩ := all r' h2
    have nd : ((H.2.1 ++ [(oc u a, oc u b, c, Sp.ruleOf (oc u b))]).map (fun k => k.1)).Nodup := wf.2.2.2
    have g1 : ((H.2.1 ++ [(oc u a, oc u b, c, Sp.ruleOf (oc u b))]).map (fun k => k.1))[r]? = some k.1 := by rw [List.getElem?_map, hk1]; rfl
    have g2 : ((H.2.1 ++ [(oc u a, oc u b, c, Sp.ruleOf (oc u b))]).map (fun k => k.1))[r']? = some k'.1 := by rw [List.getElem?_map, hk1']; rfl
    have en : k.1 = k'.1 := hk2.1.trans (he.trans hk2'.1.symm)
    refine (List.getElem?_inj ?_ nd).mp (g1.trans (by rw [en]; exact g2.symm))
    rw [List.length_map]
    omega
  refine ⟨mutC w, g.1, hD.mono hT g (g.2.2.1 0 (by decide)) rD, ⟨len, fun r hrr => ?_⟩, fun j hj => ?_, ⟨hO, l40, ?_⟩, ⟨by omega, ?_⟩, gm.1, ⟨by rw [g.2.2.1 37 (by decide)]; exact a37, by rw [g.2.2.1 27 (by decide)]; exact a27⟩, ?_⟩
  · obtain ⟨q1, q2⟩ := all r hrr
    refine ⟨q1, q2, ?_⟩
    show w.2.1 13 (r : Int) ≠ 0 ↔ Ob.has (mutC w) (oc w (w.2.1 5 (r : Int))) = true
    rw [Ob.has_iff]
    unfold mutC
    rw [List.mem_map]
    constructor
    · intro z
      exact ⟨r, List.mem_filter.mpr ⟨List.mem_range.mpr (by omega), decide_eq_true z⟩, rfl⟩
    · rintro ⟨i, hi, he⟩
      obtain ⟨i1, i2⟩ := List.mem_filter.mp hi
      have i1 := List.mem_range.mp i1
      have := hNm i r (by omega) hrr he
      rw [← this]
      exact of_decide_eq_true i2
  · by_cases e : (j : Int) = u.1 1
    · rw [e, e6]; exact ub.1
    · have q := (hF j (by omega)).up hT g
      rw [hr 6 (by omega) (by omega) _ e]
      exact q.1
  · show (H.2.1 ++ [(oc u a, oc u b, c, Sp.ruleOf (oc u b))]).length ≤ 60
    omega
  · show H.2.2 ++ [c] = kdC w
    rw [gm.2, hk]
  · unfold PmC at hP ⊢
    rw [g.2.2.2 57 (by decide)]
    exact hP
