/-! the class: a term is asked, and ended -/
abbrev AskQ (u v : iST) : Prop := IV v ∧ RG rwS rwR u v ∧ (v.1 32 = 0 → u.1 27 = 0 → Pt v + 2 ≤ Pt u)
theorem NV.at {u : iST} (h : NV u) (h27 : u.1 27 ≠ 0) {k : Int} (k0 : 0 ≤ k) (k1 : k < u.1 26) : nt u k 3 < u.1 29 := by
  rcases (h.2 k k0 k1).2.2 with z | z
  · exact z
  · exact absurd z.1 h27
theorem j_recalled {u : iST} {a b c : Int} {Q : Int → iST → Prop} (hT : RT u) (hN : NV u) (h27 : NV u → ∀ k, 0 ≤ k → k < u.1 26 → nt u k 3 < u.1 29) (hq : ∀ t v, RG [28] [] u v → t < v.1 29 → Q t v) : v_6_recalled a b c Q u := by
  have h44 := hT.1.1
  have none : Q (-1) u := hq (-1) u (RG.rf hT) (by omega)
  have n := hN.1
  unfold v_6_recalled
  refine rd_i fun _ => br_i (fun _ => none) fun h0 => rd_i fun _ => rd_i fun _ => br_i (fun h1 => rd_i fun _ => bd_i (by omega) (by omega) (bd_i (by decide) (by decide) (rd_i fun _ => br_i (fun _ => none) fun _ => bd_i (by decide) (by decide) (rd_i fun _ => br_i (fun _ => none) fun _ => bd_i (by decide) (by decide) (rd_i fun _ => br_i (fun _ => bd_i (by decide) (by decide) (rd_i fun _ => sw_e fun w e => bd_i (by decide) (by decide) (rd_i fun _ => ?_))) fun _ => none))))) fun _ => none
  have e2 : w.2 = u.2 := by rw [e]; rfl
  have r : RG [28] [] u w := by rw [e]; exact (RG.rf hT).I _ (by decide) (by decide) (by decide)
  have e29 : w.1 29 = u.1 29 := r.s 29 (by decide)
  refine hq _ w r ?_
  rw [e2, e29]
  exact h27 hN _ (by omega) h1
theorem IV.keep {u v : iST} (h : IV u) (g : RG rwS rwR u v) (hW : WK v) (h23 : v.1 23 = u.1 23) (h24 : v.1 24 < v.1 29) (h26 : v.1 26 = u.1 26) (h52 : v.2.1 52 = u.2.1 52) (h51 : v.2.1 51 = u.2.1 51) : IV v := by
  obtain ⟨⟨a1, a2, a3, a4, a5⟩, b, c⟩ := h
  have he : ∀ k j, fr v k j = fr u k j := fun k j => by unfold fr; rw [h51]
  have c1 := g.2.1.1
  refine ⟨⟨hW, ⟨by rw [h26]; exact a2.1, fun k k0 k1 => ?_⟩, h24, by rw [g.s 25 (by decide), g.s 1 (by decide)]; exact a4, by have := g.2.2.1.2.1; omega, g.2.2.1.2.2 a5.2⟩, by rw [h23]; exact b, fun k k0 k1 => ?_⟩
  · rw [h26] at k1
    obtain ⟨p, q, r⟩ := a2.2 k k0 k1
    unfold nt at *
    rw [h52, g.s 27 (by decide), h23]
    refine ⟨by omega, by omega, ?_⟩
    rcases r with r | ⟨r0, f, f0, f1, f2⟩
    · exact Or.inl (by omega)
    · exact Or.inr ⟨r0, f, f0, f1, by rw [he]; exact f2⟩
  · rw [h23] at k1
    exact ⟨(c k k0 k1).1.ext c1 (fun j _ _ => he k j), (c k k0 k1).2.ext a1.1 g.2.1 g.2.2.2 (g.s 1 (by decide)) (g.a 7 (by decide)) (fun j _ _ => he k j)⟩
theorem Pt.le {u v : iST} (g : RG rwS rwR u v) (h23 : v.1 23 = u.1 23) (h51 : v.2.1 51 = u.2.1 51) : Pt v ≤ Pt u := by
  unfold Pt
  rw [h23]
  exact Po.le g (fun k _ _ => by unfold fr; rw [h51])
/-- a frame is put on top -/
theorem IV_push {a z : iST} {t r : Int} (h : IV a) (g : RG rwS rwR a z) (hD : a.1 23 < 60) (ht : t < a.1 29) (hr : r < a.1 29) (z23 : z.1 23 = a.1 23 + 1) (z24 : z.1 24 = a.1 24) (z29 : z.1 29 = a.1 29) (z31 : z.1 31 = a.1 31) (z39 : z.1 39 = a.1 39) (z54 : z.2.1 54 = a.2.1 54) (f0 : fr z (a.1 23) 0 = t) (f2 : fr z (a.1 23) 2 = r) (f3 : fr z (a.1 23) 3 = 0) (f4 : fr z (a.1 23) 4 = a.1 26) (fo : ∀ k j, 0 ≤ k → k < a.1 23 → 0 ≤ j → j < 17 → fr z k j = fr a k j) (hn : (z.1 26 = a.1 26 ∧ z.2.1 52 = a.2.1 52) ∨ (z.1 26 = a.1 26 + 1 ∧ a.1 26 < 1000 ∧ a.1 27 = 0 ∧ ∀ i, z.2.1 52 i = if 5 * a.1 26 ≤ i ∧ i < 5 * a.1 26 + 3 then z.2.1 51 (17 * a.1 23 + (i - 5 * a.1 26)) else a.2.1 52 i)) : IV z ∧ Pt z = Pt a + 18 := by
  obtain ⟨⟨a1, a2, a3, a4, a5⟩, b, c⟩ := h
  have W : WK z := a1.rg g (a1.2.2.2.2.2.1.keep z54) (by rw [z39]; exact a1.2.2.2.2.2.2)
  have n26 := a2.1
  refine ⟨⟨⟨W, ⟨by rcases hn with h | h <;> omega, fun k k0 k1 => ?_⟩, by omega, by rw [g.s 25 (by decide), g.s 1 (by decide)]; exact a4, by rw [z31, g.s 30 (by decide)]; exact a5⟩, by omega, fun k k0 k1 => ?_⟩, ?_⟩
  · have old : ∀ k, 0 ≤ k → k < a.1 26 → (∀ j, 0 ≤ j → j < 5 → nt z k j = nt a k j) → nt z k 0 < z.1 29 ∧ nt z k 2 < z.1 29 ∧ (nt z k 3 < z.1 29 ∨ (z.1 27 = 0 ∧ ∃ f, 0 ≤ f ∧ f < z.1 23 ∧ fr z f 4 = k)) := by
      intro k k0 k1 he
      obtain ⟨p, q, r⟩ := a2.2 k k0 k1
      rw [he 0 (by decide) (by decide), he 2 (by decide) (by decide), he 3 (by decide) (by decide), z29, g.s 27 (by decide)]
      refine ⟨p, q, r.imp id (fun ⟨r0, f, p0, p1, p2⟩ => ⟨r0, f, p0, by omega, by rw [fo f 4 p0 p1 (by decide) (by decide)]; exact p2⟩)⟩
    rcases hn with ⟨n1, n2⟩ | ⟨n1, n2, n3, n4⟩
    · exact old k k0 (by omega) (fun j _ _ => by unfold nt; rw [n2])
    · by_cases e : k = a.1 26
      · have e0 : nt z k 0 = t := by
          unfold nt; rw [n4, if_pos (by omega), show 17 * a.1 23 + (5 * k + 0 - 5 * a.1 26) = 17 * a.1 23 + 0 from by omega]; exact f0
        have e2 : nt z k 2 = r := by
          unfold nt; rw [n4, if_pos (by omega), show 17 * a.1 23 + (5 * k + 2 - 5 * a.1 26) = 17 * a.1 23 + 2 from by omega]; exact f2
        rw [e0, e2, z29]
        exact ⟨ht, hr, Or.inr ⟨by rw [g.s 27 (by decide)]; exact n3, a.1 23, b.1, by omega, by rw [f4, e]⟩⟩
      · exact old k k0 (by omega) (fun j j0 j1 => by unfold nt; rw [n4, if_neg (by omega)])
  · by_cases e : k = a.1 23
    · rw [e]
      exact ⟨⟨by rw [f0]; omega, by rw [f2]; omega, by rw [f4]; exact a2.1.1⟩, SV.t (Or.inl f3)⟩
    · have k2 : k < a.1 23 := by omega
      exact ⟨(c k k0 k2).1.ext g.2.1.1 (fun j j0 j1 => fo k j k0 k2 j0 j1), (c k k0 k2).2.ext a1.1 g.2.1 g.2.2.2 (g.s 1 (by decide)) (g.a 7 (by decide)) (fun j j0 j1 => fo k j k0 k2 j0 j1)⟩
  · unfold Pt Po
    have eD : ((a.1 23).toNat : Int) = a.1 23 := by omega
    rw [z23, show (a.1 23 + 1).toNat = (a.1 23).toNat + 1 from by omega, z31, g.s 30 (by decide)]
    have e1 : cs z ((a.1 23).toNat + 1) = cs z (a.1 23).toNat + cS (fr z ((a.1 23).toNat : Int) 3) := rfl
    rw [e1, eD, f3, cs_eq (u := a) (v := z) (fun k k0 k1 => fo k 3 k0 (by omega) (by decide) (by decide))]
    have : cS 0 = 18 := by decide
    omega
theorem j_ask81 {u a : iST} {x g r : Int} {Q : iST → Prop} (hI : IV a) (hR : RG rwS rwR u a) (hD : a.1 23 < 60) (hx : x < a.1 29) (hr : r < a.1 29) (hp : u.1 27 = 0 → Pt a + 20 ≤ Pt u) (hq : ∀ v, AskQ u v → Q v) : v_6_ask_81 Q x g r a := by
  have hT := hI.1.1.1
  have n := hI.1.2.1.1
  have b := hI.2.1
  unfold v_6_ask_81
  refine rd_i fun _ => bd_i b.1 hD (bd_i (by decide) (by decide) (sw_e fun w0 q0 => bd_i (by decide) (by decide) (sw_e fun w1 q1 => bd_i (by decide) (by decide) (sw_e fun w2 q2 => bd_i (by decide) (by decide) (sw_e fun w3 q3 => rd_i fun _ => bd_i (by decide) (by decide) (sw_e fun w4 q4 => rd_i fun _ => ?_))))))
  have r4 : RG rwS rwR a w4 := by
    rw [q4, q3, q2, q1, q0]
    exact (((((RG.rf hT).A _ _ (by decide) (by decide)).A _ _ (by decide) (by decide)).A _ _ (by decide) (by decide)).A _ _ (by decide) (by decide)).A _ _ (by decide) (by decide)
  have s4 : w4.1 = a.1 := by rw [q4, q3, q2, q1, q0]; rfl
  have s3 : w3.1 = a.1 := by rw [q3, q2, q1, q0]; rfl
  have o4 : ∀ k, k ≠ 51 → w4.2.1 k = a.2.1 k := fun k hk => by
    rw [q4, q3, q2, q1, q0]
    show (if k = 51 then _ else if k = 51 then _ else if k = 51 then _ else if k = 51 then _ else if k = 51 then _ else a.2.1 k) = _
    rw [if_neg hk, if_neg hk, if_neg hk, if_neg hk, if_neg hk]
  have c0 : ∀ i, w0.2.1 51 i = if i = 17 * a.1 23 + 0 then x else a.2.1 51 i := fun i => by rw [q0]; rfl
  have c1 : ∀ i, w1.2.1 51 i = if i = 17 * a.1 23 + 1 then g else w0.2.1 51 i := fun i => by rw [q1]; rfl
  have c2 : ∀ i, w2.2.1 51 i = if i = 17 * a.1 23 + 2 then r else w1.2.1 51 i := fun i => by rw [q2]; rfl
  have c3 : ∀ i, w3.2.1 51 i = if i = 17 * a.1 23 + 3 then 0 else w2.2.1 51 i := fun i => by rw [q3]; rfl
  have c4 : ∀ i, w4.2.1 51 i = if i = 17 * a.1 23 + 4 then a.1 26 else w3.2.1 51 i := fun i => by rw [q4, ← s3]; rfl
  clear q4 q3 q2 q1 q0
  have f0 : fr w4 (a.1 23) 0 = x := by unfold fr; rw [c4, if_neg (by omega), c3, if_neg (by omega), c2, if_neg (by omega), c1, if_neg (by omega), c0, if_pos rfl]
  have f2 : fr w4 (a.1 23) 2 = r := by unfold fr; rw [c4, if_neg (by omega), c3, if_neg (by omega), c2, if_pos rfl]
  have f3 : fr w4 (a.1 23) 3 = 0 := by unfold fr; rw [c4, if_neg (by omega), c3, if_pos rfl]
  have f4 : fr w4 (a.1 23) 4 = a.1 26 := by unfold fr; rw [c4, if_pos rfl]
  have fo : ∀ k j, 0 ≤ k → k < a.1 23 → 0 ≤ j → j < 17 → fr w4 k j = fr a k j := fun k j k0 k1 j0 j1 => by
    unfold fr; rw [c4, if_neg (by omega), c3, if_neg (by omega), c2, if_neg (by omega), c1, if_neg (by omega), c0, if_neg (by omega)]
  clear c0 c1 c2 c3 c4
  rw [s4]
  refine ov_i (by omega) (by omega) (sw_e fun w5 q5 => rz_i fun _ => ?_)
  have r5 : RG rwS rwR a w5 := by rw [q5]; exact r4.I _ (by decide) (by decide) (by decide)
  have s5 : ∀ k, w5.1 k = if k = 23 then a.1 23 + 1 else a.1 k := fun k => by rw [q5, ← s4]; rfl
  have e5 : w5.2 = w4.2 := by rw [q5]; rfl
  clear q5
  have fe : ∀ k j, fr w5 k j = fr w4 k j := fun k j => by unfold fr; rw [e5]
  have done : (w5.1 27 ≠ 0 ∨ 1000 ≤ w5.1 26) → Q w5 := fun _ => by
    have q := IV_push (z := w5) (t := x) (r := r) hI r5 hD hx hr (by rw [s5, if_pos rfl]) (by rw [s5, if_neg (by decide)]) (by rw [s5, if_neg (by decide)]) (by rw [s5, if_neg (by decide)]) (by rw [s5, if_neg (by decide)]) (by rw [e5, o4 54 (by decide)]) (by rw [fe, f0]) (by rw [fe, f2]) (by rw [fe, f3]) (by rw [fe, f4]) (fun k j k0 k1 j0 j1 => by rw [fe]; exact fo k j k0 k1 j0 j1) (Or.inl ⟨by rw [s5, if_neg (by decide)], by rw [e5, o4 52 (by decide)]⟩)
    exact hq w5 ⟨q.1, hR.tr r5, fun _ z => by have := hp z; omega⟩
  refine br_i (fun h => done (Or.inl h)) fun h27 => rd_i fun _ => br_i (fun h => done (Or.inr h)) fun hlt => rd_i fun _ => ?_
  have s526 : w5.1 26 = a.1 26 := by rw [s5, if_neg (by decide)]
  rw [s526]
  rw [s526] at hlt
  refine bd_i n.1 (by omega) (sw_e fun w6 q6 => rd_i fun _ => ?_)
  have s6 : w6.1 = w5.1 := by rw [q6]; rfl
  have l6 : w6.2.2 = w5.2.2 := by rw [q6]; rfl
  have o6 : ∀ k, k ≠ 52 → w6.2.1 k = w5.2.1 k := fun k hk => by rw [q6]; exact if_neg hk
  have c6 : ∀ i, w6.2.1 52 i = if 5 * a.1 26 ≤ i ∧ i < 5 * a.1 26 + 3 then w5.2.1 51 (17 * a.1 23 + (i - 5 * a.1 26)) else w5.2.1 52 i := fun i => by rw [q6]; rfl
  clear q6
  have r6 : RG rwS rwR a w6 := r5.put ⟨fun k hk => by rw [s6], fun k hk => o6 k (fun e => hk (by rw [e]; decide))⟩ l6 (by rw [s6]) (fun z => by rw [← s6]; exact z) (fun k hk => o6 k (fun e => by rw [e] at hk; revert hk; decide)) (Sp.eq (by rw [s6]) (by rw [s6]))
  rw [s6, s526]
  refine ov_i (by omega) (by omega) (sw_e fun w7 q7 => ?_)
  have r7 : RG rwS rwR a w7 := by rw [q7]; exact r6.I _ (by decide) (by decide) (by decide)
  have s7 : ∀ k, w7.1 k = if k = 26 then a.1 26 + 1 else w5.1 k := fun k => by rw [q7, ← s6]; rfl
  have e7 : w7.2 = w6.2 := by rw [q7]; rfl
  clear q7
  have fe7 : ∀ k j, fr w7 k j = fr w4 k j := fun k j => by rw [← fe]; unfold fr; rw [e7, o6 51 (by decide)]
  have ss : ∀ k, k ≠ 26 → k ≠ 23 → w7.1 k = a.1 k := fun k h1 h2 => by rw [s7, if_neg h1, s5, if_neg h2]
  have q := IV_push (z := w7) (t := x) (r := r) hI r7 hD hx hr (by rw [s7, if_neg (by decide), s5, if_pos rfl]) (ss 24 (by decide) (by decide)) (ss 29 (by decide) (by decide)) (ss 31 (by decide) (by decide)) (ss 39 (by decide) (by decide)) (by rw [e7, o6 54 (by decide), e5, o4 54 (by decide)]) (by rw [fe7, f0]) (by rw [fe7, f2]) (by rw [fe7, f3]) (by rw [fe7, f4]) (fun k j k0 k1 j0 j1 => by rw [fe7]; exact fo k j k0 k1 j0 j1) (Or.inr ⟨by rw [s7, if_pos rfl], by omega, by
    have := Classical.not_not.mp h27
    rw [← this, s5, if_neg (by decide)], fun i => by rw [e7, c6, o6 51 (by decide), e5, o4 52 (by decide)]⟩)
  exact hq w7 ⟨q.1, hR.tr r7, fun _ z => by have := hp z; omega⟩
theorem j_ask {u : iST} {x g r : Int} {Q : iST → Prop} (hI : IV u) (hx : x < u.1 29) (hr : r < u.1 29) (hq : ∀ v, AskQ u v → Q v) : v_6_ask x g r Q u := by
  have hT := hI.1.1.1
  have hS := hI.1.1.2.2.2.2.2.1
  have h39 := hI.1.1.2.2.2.2.2.2
  have k44 : (u.1 27 = 0 ∨ u.1 23 ≤ 0) → v_6_ask_44 Q x g r u := by
    intro hc
    unfold v_6_ask_44
    refine rd_i fun _ => br_i (fun hD => rz_i fun _ => br_i (fun h27 => ?_) fun h27 => ?_) fun _ => ?_
    · exact j_ask81 hI (RG.rf hT) hD hx hr (fun z => absurd z h27) hq
    · refine j_step hT (fun a ha a31 alt a32 => br_n (by decide) ?_) fun a ha a31 a32 => br_y rfl ?_
      · have ga : RG rwS rwR u a := ha.w (by decide) (by decide)
        have aI : IV a := hI.keep ga (hI.1.1.rg ga (hS.keep (ha.a 54 (by decide))) (by rw [ha.s 39 (by decide)]; exact h39)) (ha.s 23 (by decide)) (by rw [ha.s 24 (by decide)]; exact ha.up hI.1.2.2.1) (ha.s 26 (by decide)) (ha.a 52 (by decide)) (ha.a 51 (by decide))
        refine j_ask81 aI ga (by rw [ha.s 23 (by decide)]; exact hD) (ha.up hx) (ha.up hr) (fun _ => ?_) hq
        unfold Pt Po
        rw [ha.s 23 (by decide), a31, ha.s 30 (by decide), cs_eq (u := u) (v := a) (fun k _ _ => by unfold fr; rw [ha.a 51 (by decide)])]
        omega
      · have ga : RG rwS rwR u a := ha.w (by decide) (by decide)
        have aI : IV a := hI.keep ga (hI.1.1.rg ga (hS.keep (ha.a 54 (by decide))) (by rw [ha.s 39 (by decide)]; exact h39)) (ha.s 23 (by decide)) (by rw [ha.s 24 (by decide)]; exact ha.up hI.1.2.2.1) (ha.s 26 (by decide)) (ha.a 52 (by decide)) (ha.a 51 (by decide))
        exact hq a ⟨aI, ga, fun z => absurd z a32⟩
    · refine j_blame hT (by decide) fun a ha a32 => ?_
      have ga : RG rwS rwR u a := ha.w (by decide) (by decide)
      have aI : IV a := hI.keep ga (hI.1.1.rg ga (hS.keep (ha.a 54 (by decide))) (by rw [ha.s 39 (by decide)]; exact h39)) (ha.s 23 (by decide)) (by rw [ha.s 24 (by decide)]; exact ha.up hI.1.2.2.1) (ha.s 26 (by decide)) (ha.a 52 (by decide)) (ha.a 51 (by decide))
      exact hq a ⟨aI, ga, fun z => absurd z a32⟩
  unfold v_6_ask
  refine rz_i fun _ => br_i (fun h => k44 (Or.inl h)) fun h27 => rd_i fun _ => br_i (fun h => k44 (Or.inr h)) fun _ => j_recalled hT hI.1.2.1 (fun hN k k0 k1 => hN.at h27 k0 k1) fun t a ha ht => sw_e fun b e => rd_i fun _ => ?_
  have gb : RG rwS rwR u b := by rw [e]; exact (ha.w (by decide) (by decide)).I _ (by decide) (by decide) (by decide)
  have bs : ∀ k, k ≠ 24 → k ≠ 28 → b.1 k = u.1 k := fun k h1 h2 => by
    have : b.1 k = a.1 k := by rw [e]; exact if_neg h1
    rw [this]
    exact ha.s k (by simp only [List.mem_cons, List.not_mem_nil, or_false]; exact h2)
  have b24 : b.1 24 = t := by rw [e]; rfl
  have b2 : b.2 = a.2 := by rw [e]; rfl
  have ba : ∀ k, b.2.1 k = u.2.1 k := fun k => by rw [b2]; exact ha.a k List.not_mem_nil
  have b29 : b.1 29 = a.1 29 := by rw [e]; rfl
  clear e
  have bI : IV b := hI.keep gb (hI.1.1.rg gb (hS.keep (ba 54)) (by rw [bs 39 (by decide) (by decide)]; exact h39)) (bs 23 (by decide) (by decide)) (by omega) (bs 26 (by decide) (by decide)) (ba 52) (ba 51)
  refine br_i (fun _ => hq b ⟨bI, gb, fun _ z => absurd z h27⟩) fun _ => j_blame bI.1.1.1 (by decide) fun c hc c32 => ?_
  have gc : RG rwS rwR b c := hc.w (by decide) (by decide)
  have cI : IV c := bI.keep gc (bI.1.1.rg gc (bI.1.1.2.2.2.2.2.1.keep (hc.a 54 (by decide))) (by rw [hc.s 39 (by decide)]; exact bI.1.1.2.2.2.2.2.2)) (hc.s 23 (by decide)) (by rw [hc.s 24 (by decide)]; exact hc.up bI.1.2.2.1) (hc.s 26 (by decide)) (hc.a 52 (by decide)) (hc.a 51 (by decide))
  exact hq c ⟨cI, gb.tr gc, fun z => absurd z c32⟩
abbrev StQ (u v : iST) : Prop := IV v ∧ RG rwS rwR u v ∧ (v.1 32 = 0 → u.1 27 = 0 → Pt v < Pt u)
/-- the innermost term is ended -/
theorem j_finish {u0 u : iST} {d : Nat} {x : Int} {Q : iST → Prop} (hI : IQ u0 d u) (hx : x < u.1 29) (hq : ∀ v, IV v ∧ RG rwS rwR u0 v ∧ Pt v ≤ Po u0 d → Q v) : v_6_finish x Q u := by
  obtain ⟨⟨a1, a2, a3, a4, a5⟩, b, c, e, f, p⟩ := hI
  have hT := a1.1
  have h44 := hT.1.1
  unfold v_6_finish
  refine rd_i fun _ => ?_
  rw [b.1, show (d : Int) + 1 - 1 = d from by omega]
  refine ov_i (by omega) (by omega) (sw_e fun w q => rd_i fun _ => ?_)
  have wr : RG rwS rwR u w := by rw [q]; exact (RG.rf hT).I _ (by decide) (by decide) (by decide)
  have ws : ∀ k, k ≠ 23 → w.1 k = u.1 k := fun k hk => by rw [q]; exact if_neg hk
  have w23 : w.1 23 = d := by rw [q]; rfl
  have w2 : w.2 = u.2 := by rw [q]; rfl
  clear q
  have wf : ∀ k j, fr w k j = fr u k j := fun k j => by unfold fr; rw [w2]
  have k58 : ∀ y, y < u.1 29 → v_6_finish_58 Q d y w := by
    intro y hy
    unfold v_6_finish_58
    refine sw_e fun z q => rz_i fun _ => ?_
    have zr : RG rwS rwR u z := by rw [q]; exact wr.I _ (by decide) (by decide) (by decide)
    have zs : ∀ k, k ≠ 24 → z.1 k = w.1 k := fun k hk => by rw [q]; exact if_neg hk
    have z24 : z.1 24 = y := by rw [q]; rfl
    have z2 : z.2 = u.2 := by rw [q, ← w2]; rfl
    clear q
    have zf : ∀ k j, fr z k j = fr u k j := fun k j => by unfold fr; rw [z2]
    have z23 : z.1 23 = d := by rw [zs 23 (by decide), w23]
    have zo : ∀ k, k ≠ 23 → k ≠ 24 → z.1 k = u.1 k := fun k h1 h2 => by rw [zs k h2, ws k h1]
    -- what is left to be said of the notes
    have fin : ∀ v, RG rwS rwR u v → v.1 = z.1 → v.2.1 51 = u.2.1 51 → v.2.1 54 = u.2.1 54 → NV v → Q v := by
      intro v vr v1 v51 v54 vN
      have vf : ∀ k j, fr v k j = fr u k j := fun k j => by unfold fr; rw [v51]
      have v29 : v.1 29 = u.1 29 := by rw [v1]; exact zo 29 (by decide) (by decide)
      refine hq v ⟨⟨⟨a1.rg vr (a1.2.2.2.2.2.1.keep v54) (by rw [v1, zo 39 (by decide) (by decide)]; exact a1.2.2.2.2.2.2), vN, by rw [v29, v1, z24]; exact hy, by rw [vr.s 25 (by decide), vr.s 1 (by decide)]; exact a4, by rw [vr.s 30 (by decide), v1, zo 31 (by decide) (by decide)]; exact a5⟩, by rw [v1, z23]; omega, fun k k0 k1 => ?_⟩, f.tr vr, ?_⟩
      · rw [v1, z23] at k1
        exact ⟨(c k k0 k1).1.ext vr.2.1.1 (fun j _ _ => vf k j), (c k k0 k1).2.ext hT vr.2.1 vr.2.2.2 (vr.s 1 (by decide)) (vr.a 7 (by decide)) (fun j _ _ => vf k j)⟩
      · unfold Pt
        rw [v1, z23, show ((d : Int)).toNat = d from by omega]
        exact Int.le_trans (Po.le vr (fun k _ _ => vf k 3)) p
    have e4 := e.2.2
    have skip : (z.1 27 ≠ 0 ∨ 1000 ≤ fr u d 4) → Q z := by
      intro hc
      refine fin z zr rfl (by rw [z2]) (by rw [z2]) ⟨by rw [zo 26 (by decide) (by decide)]; exact a2.1, fun k k0 k1 => ?_⟩
      rw [zo 26 (by decide) (by decide)] at k1
      obtain ⟨p1, p2, p3⟩ := a2.2 k k0 k1
      unfold nt at *
      rw [z2, zo 29 (by decide) (by decide)]
      refine ⟨p1, p2, ?_⟩
      rcases p3 with p3 | ⟨r0, g, g0, g1, g2⟩
      · exact Or.inl p3
      · rcases hc with hc | hc
        · exact absurd ((zo 27 (by decide) (by decide)).trans r0) hc
        · refine Or.inr ⟨by rw [zo 27 (by decide) (by decide)]; exact r0, g, g0, ?_, by rw [zf]; exact g2⟩
          rw [z23]
          by_cases eg : g = d
          · rw [eg] at g2
            have := a2.1
            omega
          · omega
    have z51 : z.2.1 51 (17 * (d : Int) + 4) = fr u d 4 := by rw [z2]; rfl
    refine br_i (fun h => skip (Or.inl h)) fun h27 => bd_i (by decide) (by decide) (rd_i fun _ => br_i (fun h => skip (Or.inr (by rw [← z51]; exact h))) fun hlt => bd_i (by decide) (by decide) (rd_i fun _ => ?_))
    rw [z51]
    rw [z51] at hlt
    refine bd_i e4 (by omega) (rd_i fun _ => bd_i (by decide) (by decide) (sw_e fun s q => bd_i (by decide) (by decide) (rd_i fun _ => ?_)))
    have sr : RG rwS rwR u s := by rw [q]; exact zr.A _ _ (by decide) (by decide)
    have s1 : s.1 = z.1 := by rw [q]; rfl
    have so : ∀ k, k ≠ 52 → s.2.1 k = u.2.1 k := fun k hk => by rw [q, ← z2]; exact if_neg hk
    have s52 : ∀ i, s.2.1 52 i = if i = 5 * fr u d 4 + 3 then y else u.2.1 52 i := fun i => by rw [q, ← z2, ← z24]; rfl
    clear q
    have s51 : s.2.1 51 (17 * (d : Int) + 4) = fr u d 4 := by rw [so 51 (by decide)]; rfl
    rw [s51]
    refine bd_i e4 (by omega) (rd_i fun _ => bd_i (by decide) (by decide) (sw_e fun t q => ?_))
    have tr : RG rwS rwR u t := by rw [q]; exact sr.A _ _ (by decide) (by decide)
    have t1 : t.1 = z.1 := by rw [q, ← s1]; rfl
    have to : ∀ k, k ≠ 52 → t.2.1 k = u.2.1 k := fun k hk => by rw [q, ← so k hk]; exact if_neg hk
    have t52 : ∀ i, t.2.1 52 i = if i = 5 * fr u d 4 + 4 then s.1 26 else s.2.1 52 i := fun i => by rw [q]; rfl
    clear q
    refine fin t tr t1 (to 51 (by decide)) (to 54 (by decide)) ⟨by rw [t1, zo 26 (by decide) (by decide)]; exact a2.1, fun k k0 k1 => ?_⟩
    rw [t1, zo 26 (by decide) (by decide)] at k1
    obtain ⟨p1, p2, p3⟩ := a2.2 k k0 k1
    have n0 : nt t k 0 = nt u k 0 := by unfold nt; rw [t52, if_neg (by omega), s52, if_neg (by omega)]
    have n2 : nt t k 2 = nt u k 2 := by unfold nt; rw [t52, if_neg (by omega), s52, if_neg (by omega)]
    have n3 : nt t k 3 = if k = fr u d 4 then y else nt u k 3 := by
      unfold nt
      rw [t52, if_neg (by omega), s52]
      by_cases ek : k = fr u d 4
      · rw [if_pos ek, if_pos (by omega)]
      · rw [if_neg ek, if_neg (by omega)]
    rw [n0, n2, n3, t1, zo 29 (by decide) (by decide)]
    refine ⟨p1, p2, ?_⟩
    by_cases ek : k = fr u d 4
    · rw [if_pos ek]; exact Or.inl hy
    · rw [if_neg ek]
      rcases p3 with p3 | ⟨r0, g, g0, g1, g2⟩
      · exact Or.inl p3
      · refine Or.inr ⟨by rw [zo 27 (by decide) (by decide)]; exact r0, g, g0, ?_, by unfold fr; rw [to 51 (by decide)]; exact g2⟩
        rw [z23]
        by_cases eg : g = d
        · rw [eg] at g2
          exact absurd g2.symm ek
        · omega
  have k47 : ∀ y, v_6_finish_47 Q x d y w := by
    intro y
    unfold v_6_finish_47
    exact br_i (fun _ => k58 x hx) fun _ => k58 1 (by omega)
  have k46 : v_6_finish_46 Q x d w := by
    unfold v_6_finish_46
    exact k47 0
  rw [w23]
  exact bd_i (by omega) (by omega) (bd_i (by decide) (by decide) (rd_i fun _ => br_i (fun _ => k46) fun _ => j_isConstant wr.1 fun b _ _ => br_i (fun _ => k46) fun _ => br_i (fun _ => k46) fun _ => k47 1))
