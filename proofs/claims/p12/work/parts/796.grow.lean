-- deps: 795
/-! the class: the house grows -/
theorem nd_split [DecidableEq Ob] (l : List Int) (j : Nat) (hj : j ≤ l.length) : Sp.nd (l.take j) ≤ Sp.nd l ∧ j - Sp.nd (l.take j) ≤ l.length - Sp.nd l := by
  have e := nd_app (l.take j) (l.drop j)
  rw [List.take_append_drop] at e
  have h1 := nd_le (l.drop j)
  rw [List.length_drop] at h1
  have h2 := nd_le (l.take j)
  rw [List.length_take] at h2
  omega
theorem LowD.up [DecidableEq Ob] {u : iST} {m m' d : Int} (h : LowD u m d) (hm : m ≤ m') : LowD u m' d := by
  obtain ⟨a, b, c, e⟩ := h
  exact ⟨by omega, by omega, by omega, by omega⟩
theorem LowT.up [DecidableEq Ob] {u : iST} {m m' d : Int} (h : LowT u m d) (hm : m ≤ m') : LowT u m' d := by
  obtain ⟨a, b, c⟩ := h
  refine ⟨by omega, by omega, fun z => ?_⟩
  obtain ⟨c1, c2, c3⟩ := c z
  exact ⟨by omega, by omega, fun i i0 i1 => by have := c3 i i0 i1; omega⟩
theorem MkC_grow [DecidableEq Ob] {u w : iST} {H : Sp.Hs} {m : List Ob} {c mk : Int} (h : HC u H m) (h29 : w.1 29 = u.1 29) (w2 : w.1 2 = u.1 2 + 1) (w3 : w.1 3 = mk) (m1 : u.1 3 ≤ mk) (m2 : mk ≤ u.1 29) (r14 : ∀ i, w.2.1 14 i = if i = u.1 2 then c else u.2.1 14 i) (r15 : ∀ i, w.2.1 15 i = if i = u.1 2 then u.1 3 else u.2.1 15 i)
    (hd : ∀ d, 0 ≤ d → d < u.1 0 → ∀ M, LowD u M d → LowD w M d) (ht : ∀ k, 0 ≤ k → k < u.1 1 → ∀ M, LowT u M k → LowT w M k) (newD : c = 1 → LowD w mk (u.1 0)) (newT : c ≠ 1 → LowT w mk (u.1 1)) : MkC w ∧ kdC w = kdC u ++ [c] := by
  obtain ⟨nm1, nm2, nm3, nm4, nm5, nm6, nm7⟩ := h.nums
  obtain ⟨lo1, lo2⟩ := h.low
  obtain ⟨⟨a1, a2, a3⟩, a4⟩ := h.2.2.2.2.2.2.1
  have k0 := h.2.2.2.2.2.1.1
  have ek : kdC w = kdC u ++ [c] := by
    unfold kdC
    rw [w2, show (u.1 2 + 1).toNat = (u.1 2).toNat + 1 by omega, List.range_succ, List.map_append]
    refine congr (congrArg _ (List.map_congr_left (fun i hi => ?_))) ?_
    · have := List.mem_range.mp hi
      rw [r14, if_neg (by omega)]
    · show [w.2.1 14 (((u.1 2).toNat : Nat) : Int)] = [c]
      rw [r14, if_pos (by omega)]
  have lk := kdC_len (u := u)
  have tk : ∀ j : Nat, j ≤ (u.1 2).toNat → (kdC w).take j = (kdC u).take j := fun j hj => by rw [ek, List.take_append_of_le_length (by omega)]
  have old : ∀ (M : Int) (j : Nat), j ≤ (u.1 2).toNat → LowAt u M j → LowAt w M j := fun M j hj hL => by
    obtain ⟨s1, s2⟩ := nd_split (kdC u) j (by omega)
    unfold LowAt at hL ⊢
    rw [tk j hj]
    exact ⟨fun d d0 d1 => hd d d0 (by omega) M (hL.1 d d0 d1), fun k k0 k1 => ht k k0 (by omega) M (hL.2 k k0 k1)⟩
  refine ⟨⟨⟨by omega, by omega, ?_⟩, fun j j0 j1 => ?_⟩, ek⟩
  · rw [w3, w2]
    unfold LowAt
    rw [List.take_of_length_le (by rw [kdC_len, w2]; exact Nat.le_refl _), ek, nd_app]
    have e1 : Sp.nd [c] = if c = 1 then 1 else 0 := by
      show 0 + (if c = 1 then 1 else 0) = _
      omega
    rw [e1]
    by_cases q : c = 1
    · rw [if_pos q]
      refine ⟨fun d d0 d1 => ?_, fun k k0 k1 => ht k k0 (by omega) mk ((lo2 k k0 (by omega)).up m1)⟩
      by_cases e : d = u.1 0
      · rw [e]; exact newD q
      · exact hd d d0 (by omega) mk ((lo1 d d0 (by omega)).up m1)
    · rw [if_neg q]
      refine ⟨fun d d0 d1 => hd d d0 (by omega) mk ((lo1 d d0 (by omega)).up m1), fun k k0 k1 => ?_⟩
      by_cases e : k = u.1 1
      · rw [e]; exact newT q
      · exact ht k k0 (by omega) mk ((lo2 k k0 (by omega)).up m1)
  · rw [w2] at j1
    rw [r15, w3]
    by_cases e : j = u.1 2
    · rw [if_pos e]
      refine ⟨a1, m1, fun i i0 i1 => ?_, ?_⟩
      · rw [r15, if_neg (by omega)]
        exact (a4 i i0 (by omega)).2.1
      · rw [e]
        exact old _ _ (Nat.le_refl _) a3
    · rw [if_neg e]
      obtain ⟨b1, b2, b3, b4⟩ := a4 j j0 (by omega)
      refine ⟨b1, by omega, fun i i0 i1 => ?_, old _ _ (by omega) b4⟩
      rw [r15, if_neg (by omega)]
      exact b3 i i0 i1
/-- a function is taken -/
theorem HC_def [DecidableEq Ob] {u w : iST} {H : Sp.Hs} {m : List Ob} {D : Sp.Dfn} {mk t0 t1 t2 t3 t4 : Int} (h : HC u H m) (hO : Sp.HOk (Sp.addDef H D)) (h40 : H.1.length < 40) (gw : CG f8U3 (fun k => decide (k ≤ 4 ∨ k = 14 ∨ k = 15)) u w) (wc : w.2.2 = u.2.2) (w0 : w.1 0 = u.1 0 + 1) (w1 : w.1 1 = u.1 1) (w2 : w.1 2 = u.1 2 + 1) (w3 : w.1 3 = mk) (m1 : u.1 3 ≤ mk) (m2 : mk ≤ u.1 29) (rw' : ∀ k, k ≤ 4 → ∀ j, j ≠ u.1 0 → w.2.1 k j = u.2.1 k j)
    (e0 : w.2.1 0 (u.1 0) = t0) (e1 : w.2.1 1 (u.1 0) = t1) (e2 : w.2.1 2 (u.1 0) = t2) (e3 : w.2.1 3 (u.1 0) = t3) (e4 : w.2.1 4 (u.1 0) = t4) (r14 : ∀ i, w.2.1 14 i = if i = u.1 2 then 1 else u.2.1 14 i) (r15 : ∀ i, w.2.1 15 i = if i = u.1 2 then u.1 3 else u.2.1 15 i)
    (v0 : VN u t0 ∧ t0 < mk) (v1 : VN u t1 ∧ t1 < mk) (v3 : VN u t3 ∧ t3 < mk) (v4 : t4 < mk ∧ (t4 ≠ -1 → VN u t4)) (hn : (oc u t0).isName = true) (hl : (oc u t1).len = t2) (l0 : 0 ≤ t2) (l6 : t2 ≤ 6) (eD : D = (oc u t0, Ob.toList (oc u t1), oc u t3, if t4 = -1 then none else some (oc u t4))) : HC w (Sp.addDef H D) m := by
  have gm := MkC_grow (c := 1) h (gw.2.2.1 29 (by decide)) w2 w3 m1 m2 r14 r15 (fun d d0 d1 M hL => by
      unfold LowD at hL ⊢
      rw [rw' 0 (by omega) d (by omega), rw' 1 (by omega) d (by omega), rw' 3 (by omega) d (by omega), rw' 4 (by omega) d (by omega)]
      exact hL) (fun k _ _ M hL => by
      unfold LowT at hL ⊢
      rw [gw.2.2.2 5 (by decide), gw.2.2.2 6 (by decide), gw.2.2.2 7 (by decide), gw.2.2.2 8 (by decide), gw.2.2.2 9 (by decide), gw.2.2.2 50 (by decide)]
      exact hL) (fun _ => by
      unfold LowD
      rw [e0, e1, e3, e4]
      exact ⟨v0.2, v1.2, v3.2, v4.1⟩) (fun z => absurd rfl z)
  obtain ⟨nm1, nm2, nm3, nm4, nm5, nm6, nm7⟩ := h.nums
  obtain ⟨hT, hD, hTo, hF, ⟨_, l40, l60⟩, ⟨k0, hk⟩, hM, ⟨a37, a27⟩, hP⟩ := h
  have eo : ∀ j, oc w j = oc u j := fun j => oc_same wc j
  have w29 : w.1 29 = u.1 29 := gw.2.2.1 29 (by decide)
  have vn : ∀ x, VN u x → VN w x := fun x q => ⟨q.1, by rw [w29]; exact q.2⟩
  have wf := HOk.wf hO
  have rT : ∀ k, 5 ≤ k → k ≤ 13 → w.2.1 k = u.2.1 k := fun k a b => gw.2.2.2 k (decide_eq_false (by omega))
  have r50 : w.2.1 50 = u.2.1 50 := gw.2.2.2 50 (by decide)
  have df : ∀ i, i ≠ u.1 0 → dfnC w i = dfnC u i := fun i hi => by
    unfold dfnC
    rw [rw' 0 (by omega) i hi, rw' 1 (by omega) i hi, rw' 3 (by omega) i hi, rw' 4 (by omega) i hi, eo, eo, eo, eo]
  have th : ∀ r : Nat, (r : Int) < u.1 1 → ∃ k, H.2.1[r]? = some k ∧ thC u (r : Int) k ∧ Sp.ThmWf (H.1 ++ [D], H.2.1, m) k := fun r hr => by
    obtain ⟨_, ⟨k, hk1, hk2⟩, _⟩ := hTo.2 r hr
    exact ⟨k, hk1, hk2, wf.2.1 k (List.mem_of_getElem? hk1)⟩
  refine ⟨gw.1, ⟨?_, by omega, fun d d0 d1 => ?_⟩, ⟨?_, fun r hr => ?_⟩, fun j hj => ?_, ⟨hO, ?_, l60⟩, ⟨by omega, ?_⟩, gm.1, ⟨by rw [gw.2.2.1 37 (by decide)]; exact a37, by rw [gw.2.2.1 27 (by decide)]; exact a27⟩, ?_⟩
  · show H.1 ++ [D] = dfsC w
    have eD1 : H.1 = dfsC u := hD.1
    rw [eD1]
    unfold dfsC
    rw [w0, show (u.1 0 + 1).toNat = (u.1 0).toNat + 1 by omega, List.range_succ, List.map_append]
    refine congr (congrArg _ (List.map_congr_left (fun i hi => ?_))) ?_
    · have := List.mem_range.mp hi
      rw [df _ (by omega)]
    · show [D] = [dfnC w (((u.1 0).toNat : Nat) : Int)]
      rw [show (((u.1 0).toNat : Nat) : Int) = u.1 0 by omega]
      unfold dfnC
      rw [e0, e1, e3, e4, eo, eo, eo, eo, eD]
  · by_cases e : d = u.1 0
    · rw [e]
      unfold D1c
      rw [e0, e1, e2, e3, e4, eo, eo]
      exact ⟨vn _ v0.1, hn, ⟨vn _ v1.1, hl, l0, l6⟩, vn _ v3.1, fun z => vn _ (v4.2 z)⟩
    · have q := hD.2.2 d d0 (by omega)
      unfold D1c at q ⊢
      rw [rw' 0 (by omega) d e, rw' 1 (by omega) d e, rw' 2 (by omega) d e, rw' 3 (by omega) d e, rw' 4 (by omega) d e, eo, eo]
      exact ⟨vn _ q.1, q.2.1, ⟨vn _ q.2.2.1.1, q.2.2.1.2⟩, vn _ q.2.2.2.1, fun z => vn _ (q.2.2.2.2 z)⟩
  · show ((H.2.1.length : Nat) : Int) = w.1 1
    rw [w1]; exact nm4
  · rw [w1] at hr
    obtain ⟨b1, _, b3⟩ := hTo.2 r hr
    obtain ⟨k, e, q1, q2⟩ := th r hr
    obtain ⟨p1, p2, p3, p4⟩ := (b1.re q1 q2).mono hT gw rT r50
    refine ⟨p1, ⟨k, e, ?_, ?_, ?_⟩, ?_⟩
    · rw [p3]; exact q1.1
    · rw [p4]; exact q1.2.1
    · rw [p2]; exact q1.2.2
    · rw [p3, rT 13 (by omega) (by omega)]; exact b3
  · rw [w1] at hj
    obtain ⟨k, e, q1, q2⟩ := th j hj
    have q := hF j hj
    rw [rT 6 (by omega) (by omega)]
    refine ⟨vn _ q.1, ?_, by rw [eo]; exact q.2.2⟩
    rw [eo]
    exact (thW_rule q1 q2).1
  · show (H.1 ++ [D]).length ≤ 40
    rw [List.length_append]
    show H.1.length + 1 ≤ 40
    omega
  · show H.2.2 ++ [1] = kdC w
    rw [gm.2, hk]
  · unfold PmC at hP ⊢
    rw [gw.2.2.2 57 (by decide)]
    exact hP
