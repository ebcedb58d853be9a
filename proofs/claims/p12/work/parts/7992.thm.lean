-- deps: 7991
/-! the class: what a theorem gives -/
theorem RuC.same [DecidableEq Ob] {z w : iST} {E : Sp.Env} {r : Int} {R : Option Sp.Rul} (h : RuC z E r R) (hr : ∀ k, (7 ≤ k ∧ k ≤ 12) ∨ k = 50 → w.2.1 k = z.2.1 k) (hc : w.2.2 = z.2.2) (h29 : w.1 29 = z.1 29) : RuC w E r R := by
  have eo : ∀ j, oc w j = oc z j := fun j => oc_same hc j
  have nd : ∀ x, NdC z E x → NdC w E x := fun x q => ⟨⟨q.1.1, by rw [h29]; exact q.1.2⟩, by rw [eo]; exact q.2.1, by rw [eo]; exact q.2.2⟩
  obtain ⟨h1, h2⟩ := h
  have eh : hypC w r = hypC z r := by
    unfold hypC
    rw [hr 9 (by omega), hr 50 (by omega)]
    exact List.map_congr_left (fun i _ => eo _)
  refine ⟨?_, ?_⟩
  · unfold rulC at h1 ⊢
    rw [hr 7 (by omega), hr 8 (by omega), hr 10 (by omega), hr 11 (by omega), hr 12 (by omega), eo, eo, eh]
    exact h1
  · rw [hr 7 (by omega), hr 8 (by omega), hr 9 (by omega), hr 50 (by omega), eo, eo]
    intro q
    obtain ⟨c1, c2, c3, c4, c5, c6⟩ := h2 q
    refine ⟨nd _ c1, c2, nd _ c3, c4, c5, fun i i0 i1 => ?_⟩
    rw [eo]
    exact ⟨nd _ (c6 i i0 i1).1, (c6 i i0 i1).2⟩
theorem cc_190 [DecidableEq Ob] {mk f : Int} {Q : Int → iST → Prop} {s : iST} {H : Sp.Hs} {m : List Ob} {c : Int} (h : HC s H m) (hc : c = if f = 22 then 3 else 2) (hO : Sp.HOk (Sp.addThm H (oc s (s.1 44)) (oc s (s.1 45)) c)) (h60 : H.2.1.length < 60) (m1 : s.1 3 ≤ mk) (m2 : mk ≤ s.1 29) (v44 : VN s (s.1 44) ∧ s.1 44 < mk) (n45 : NdC s (H.env m) (s.1 45)) (l45 : s.1 45 < mk)
    (hq : ∀ w m', HC w (Sp.addThm H (oc s (s.1 44)) (oc s (s.1 45)) c) m' → (w.1 3 = mk ∧ ∀ k, 3 < k → k ≠ 39 → w.1 k = s.1 k) → (∀ k, f8Tr k = false → w.2.1 k = s.2.1 k) → CE s w → BkP s w → Q 0 w) : pv_11_conclude_190 Q mk f s := by
  obtain ⟨nm1, nm2, nm3, nm4, nm5, nm6, nm7⟩ := h.nums
  have hT := h.1
  have l40 := h.2.2.2.2.1.2.1
  unfold pv_11_conclude_190
  intro v5 e5 _ v6 e6 _
  rw [e5, e6]
  refine pc_addTheorem hT rfl (by omega) (fun y gy yc yn y1 yro yrk p5 p6 p7 p12 => ?_)
  have oy : ∀ x, oc y x = oc s x := fun x => oc_same yc x
  have y29 : y.1 29 = s.1 29 := yn 29 (by decide)
  have ny : NdC y (H.env m) (s.1 45) := ⟨⟨n45.1.1, by rw [y29]; exact n45.1.2⟩, by rw [oy]; exact n45.2.1, by rw [oy]; exact n45.2.2⟩
  refine pc_learn (r := s.1 1) gy.1 y1 nm7 (by rw [p6]; exact ny) p7 (fun z hz hR => ?_)
  rw [p6] at hR
  obtain ⟨gz, zr, z50⟩ := hz
  have zn : ∀ k, k ≠ 39 → z.1 k = y.1 k := fun k hk => gz.2.2.1 k (by unfold f8b; exact decide_eq_false hk)
  have enter : ∀ c', c' = c → pv_11_conclude_227 Q mk c' z := fun c' ec => by
    rw [ec]
    unfold pv_11_conclude_227
    refine pc_enter gz.1 (by rw [zn 2 (by decide), yn 2 (by decide)]; omega) (fun w gw wc wn w2 w3 w14 w15 wr => ?_)
    have G : CG f8Tn f8Tr s w := by
      have a1 : CG f8Tn f8Tr s y := gy.mono (fun k hk => by unfold f8Tn at hk; simp only [Bool.or_eq_false_iff, decide_eq_false_iff_not] at hk; exact decide_eq_false (by omega)) (fun k hk => by unfold f8Tr at hk; simp only [Bool.or_eq_false_iff, decide_eq_false_iff_not] at hk; exact decide_eq_false (by omega))
      have a2 : CG f8Tn f8Tr y z := gz.mono (fun k hk => by unfold f8Tn at hk; unfold f8b; simp only [Bool.or_eq_false_iff, decide_eq_false_iff_not] at hk ⊢; omega) (fun k hk => by unfold f8Tr at hk; unfold f8V f8m; simp only [Bool.or_eq_false_iff, decide_eq_false_iff_not] at hk ⊢; omega)
      have a3 : CG f8Tn f8Tr z w := gw.mono (fun k hk => by unfold f8Tn at hk; simp only [Bool.or_eq_false_iff, decide_eq_false_iff_not] at hk; exact decide_eq_false (by omega)) (fun k hk => by unfold f8Tr at hk; simp only [Bool.or_eq_false_iff, decide_eq_false_iff_not] at hk; exact decide_eq_false (by omega))
      exact (a1.tr a2).tr a3
    have ro : ∀ k, 5 ≤ k → k ≤ 12 → ∀ j, j ≠ s.1 1 → w.2.1 k j = s.2.1 k j := fun k k1 k2 j hj => by
      rw [wr k (by omega) (by omega)]
      by_cases q : 7 ≤ k
      · rw [zr k q k2 j hj]; exact yro k j hj
      · rw [gz.2.2.2 k (by unfold f8V f8m; simp only [Bool.or_eq_false_iff, decide_eq_false_iff_not]; omega)]; exact yro k j hj
    have r5 : ∀ k, k = 5 ∨ k = 6 → w.2.1 k (s.1 1) = y.2.1 k (s.1 1) := fun k hk => by
      rw [wr k (by omega) (by omega), gz.2.2.2 k (by unfold f8V f8m; simp only [Bool.or_eq_false_iff, decide_eq_false_iff_not]; omega)]
    have z45 : oc z (s.1 45) = oc s (s.1 45) := by rw [(ny.up gy.1 gz).2, oy]
    have o45 : oc w (s.1 45) = oc s (s.1 45) := (oc_same wc _).trans z45
    have hRw : RuC w (H.env m) (s.1 1) (Sp.ruleOf (oc w (s.1 45))) := by
      rw [o45]
      refine RuC.same (z := z) ?_ (fun k hk => wr k (by omega) (by omega)) wc (wn 29 (by decide) (by decide))
      rw [oy] at hR
      exact hR
    have hc1 : c ≠ 1 := by
      rw [hc]
      split <;> decide
    have w2' : w.1 2 = s.1 2 + 1 := by rw [w2, zn 2 (by decide), yn 2 (by decide)]
    obtain ⟨m', hm'⟩ := HC_thm (a := s.1 44) (b := s.1 45) h hc1 hO h60 G (by rw [wn 1 (by decide) (by decide), zn 1 (by decide)]; exact y1) w2' w3 m1 m2 ro (fun i hi => by rw [wr 50 (by decide) (by decide), z50 i hi, yrk 50 (by decide) (by decide) (by decide) (by decide)]) (by rw [r5 5 (by omega)]; exact p5) (by rw [r5 6 (by omega)]; exact p6) hRw (fun i => by rw [w14, zn 2 (by decide), yn 2 (by decide), gz.2.2.2 14 (by decide), yrk 14 (by decide) (by decide) (by decide) (by decide)]) (fun i => by rw [w15, zn 2 (by decide), yn 2 (by decide), zn 3 (by decide), yn 3 (by decide), gz.2.2.2 15 (by decide), yrk 15 (by decide) (by decide) (by decide) (by decide)]) v44 n45 l45
    exact hq w m' hm' ⟨w3, fun k hk h39 => G.2.2.1 k (by unfold f8Tn; simp only [Bool.or_eq_false_iff, decide_eq_false_iff_not]; omega)⟩ (fun k hk => G.2.2.2 k hk) G.2.1 ⟨⟨G.2.2.1 25 (by decide), Int.le_of_eq (G.2.2.1 0 (by decide)).symm, by rw [wn 1 (by decide) (by decide), zn 1 (by decide), y1]; omega⟩, fun k hk j _ => by rw [G.2.2.2 k (by unfold f8Tr; simp only [Bool.or_eq_false_iff, decide_eq_false_iff_not]; omega)], fun k h1 h2 j hj => ro k h1 h2 j (by omega), G.2.2.2 13 (by decide), fun i hi => by rw [wr 50 (by decide) (by decide), z50 i hi, yrk 50 (by decide) (by decide) (by decide) (by decide)], hm'.2.1.2.2⟩
  refine ⟨fun q => enter 2 ?_, fun q => enter 3 ?_⟩
  · rw [hc, if_neg q]
  · rw [hc, if_pos (Decidable.not_not.mp q)]
