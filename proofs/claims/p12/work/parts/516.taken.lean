-- deps: 5155
/-! the reference: something is taken -/
theorem srt_app [DecidableEq Ob] {y w : iST} {c : Int} (h0 : 0 ≤ y.1 54) (w54 : w.1 54 = y.1 54 + 1) (w55 : ∀ i, w.2.1 55 i = if i = y.1 54 then c else y.2.1 55 i) : srt w = srt y ++ [c] := by
  unfold srt
  rw [w54, show (y.1 54 + 1).toNat = (y.1 54).toNat + 1 by omega, List.range_succ, List.map_append]
  refine congr (congrArg _ (List.map_congr_left (fun i hi => ?_))) ?_
  · have := List.mem_range.mp hi
    rw [w55, if_neg (by omega)]
  · show [w.2.1 55 ((y.1 54).toNat : Int)] = [c]
    rw [w55, if_pos (by omega)]
theorem nd_take_le [DecidableEq Ob] (l : List Int) (j : Nat) : Sp.nd (l.take j) ≤ Sp.nd l := by
  have e : Sp.nd l = Sp.nd (l.take j) + Sp.nd (l.drop j) := by rw [← nd_app, List.take_append_drop]
  omega
theorem nd_take_sub [DecidableEq Ob] (l : List Int) (j : Nat) (h : j ≤ l.length) : j - Sp.nd (l.take j) ≤ l.length - Sp.nd l := by
  have e : Sp.nd l = Sp.nd (l.take j) + Sp.nd (l.drop j) := by rw [← nd_app, List.take_append_drop]
  have := nd_le (l.drop j)
  have hln : (l.drop j).length = l.length - j := List.length_drop
  omega
/-- the marks, when one more was taken -/
theorem Mk_app [DecidableEq Ob] {y w : iST} {H : Sp.Hs} {m : List Ob} {c : Int} (h : HX y H m) (bg : BgOk y) (w54 : w.1 54 = y.1 54 + 1) (w55 : ∀ i, w.2.1 55 i = if i = y.1 54 then c else y.2.1 55 i) (w56 : ∀ i, w.2.1 56 i = if i = y.1 54 then y.1 132 else y.2.1 56 i) (w8 : w.1 8 = y.1 8)
    (hd : ∀ d M, 0 ≤ d → d < y.1 35 → DLow y M d → DLow w M d) (ht : ∀ k M, 0 ≤ k → k < y.1 42 → TLow y M k → TLow w M k) : MkOk w := by
  obtain ⟨e35, e42, etk, elen⟩ := h.nums
  have h54 := h.2.2.2.2.2.1
  have es := srt_app h54 w54 w55
  obtain ⟨b1, b2, b3, b4⟩ := bg
  have low : ∀ (M : Int) (j : Nat), (j : Int) ≤ y.1 54 → MkAt y M j → MkAt w M j := by
    intro M j hj hM
    unfold MkAt at hM ⊢
    have tk : (srt w).take j = (srt y).take j := by rw [es, List.take_append_of_le_length (by omega)]
    rw [tk]
    have n1 := nd_take_le (srt y) j
    have n2 := nd_take_sub (srt y) j (by omega)
    exact ⟨fun d d0 d1 => hd d M d0 (by omega) (hM.1 d d0 d1), fun k k0 k1 => ht k M k0 (by omega) (hM.2 k k0 k1)⟩
  intro j j0 j1
  rw [w56]
  by_cases cj : j = y.1 54
  · rw [if_pos cj]
    refine ⟨b1, by omega, fun i i0 i1 => ?_, ?_⟩
    · rw [w56, if_neg (by omega)]; exact b3 i i0 (by omega)
    · rw [cj]; exact low _ _ (by omega) b4
  · rw [if_neg cj]
    obtain ⟨a1, a2, a3, a4⟩ := h.2.2.2.2.2.2.2 j j0 (by omega)
    refine ⟨a1, by omega, fun i i0 i1 => ?_, low _ _ (by omega) a4⟩
    rw [w56, if_neg (by omega)]; exact a3 i i0 i1
/-- a function -/
theorem HX_def [DecidableEq Ob] {y w : iST} {H : Sp.Hs} {m : List Ob} {D : Sp.Dfn} (h : HX y H m) (bg : BgOk y) (hs : ∀ k, k ≤ 11 → w.1 k = y.1 k ∧ w.2.1 k = y.2.1 k) (hL : w.2.2 = y.2.2) (w57 : w.1 57 = -1) (w42 : w.1 42 = y.1 42) (wt : ∀ k, 43 ≤ k → k ≤ 53 → w.2.1 k = y.2.1 k)
    (w35 : w.1 35 = y.1 35 + 1) (wd : ∀ k d, 36 ≤ k → k ≤ 41 → k ≠ 38 → 0 ≤ d → d < y.1 35 → w.2.1 k d = y.2.1 k d) (w38 : ∀ i, i < 6 * y.1 35 → w.2.1 38 i = y.2.1 38 i) (nD : D1 w (y.1 35)) (eD : dfn1 w (y.1 35) = D) (wf : Sp.DfnWf (H.1 ++ [D], H.2.1, []) D) (fr : ∀ X, X ∈ H.1 → X.1 ≠ D.1)
    (w54 : w.1 54 = y.1 54 + 1) (w55 : ∀ i, w.2.1 55 i = if i = y.1 54 then 1 else y.2.1 55 i) (w56 : ∀ i, w.2.1 56 i = if i = y.1 54 then y.1 132 else y.2.1 56 i) : HX w (Sp.addDef H D) m := by
  have hh := h
  obtain ⟨h1, h2, ⟨hD, h57, hW, hTk⟩, h4, h5, h6, h7, h8⟩ := h
  have g : GZ (fun _ => true) y w := GZ_eq (GZ.rf h1 h2) hs hL (fun k z => by cases z)
  have eo : ∀ j, ob w j = ob y j := ob_same (hs 0 (by decide)).2 (hs 1 (by decide)).2 (hs 9 (by decide)).2 (hs 10 (by decide)).2 hL
  have w8 : w.1 8 = y.1 8 := (hs 8 (by decide)).1
  have ok := HOk.addDef h5 wf fr
  have old : ∀ d, 0 ≤ d → d < y.1 35 → D1 w d ∧ dfn1 w d = dfn1 y d := by
    intro d d0 d1
    obtain ⟨a1, ⟨a2, a3, a4⟩, a5, a6⟩ := hD.2.2 d d0 d1
    have r38 : ∀ i, i < y.2.1 37 d → w.2.1 38 (6 * d + i) = y.2.1 38 (6 * d + i) := fun i hi => w38 _ (by omega)
    unfold D1 dfn1 prm
    rw [wd 36 d (by decide) (by decide) (by decide) d0 d1, wd 37 d (by decide) (by decide) (by decide) d0 d1, wd 39 d (by decide) (by decide) (by decide) d0 d1, wd 40 d (by decide) (by decide) (by decide) d0 d1, wd 41 d (by decide) (by decide) (by decide) d0 d1, w8, eo, eo, eo]
    refine ⟨⟨a1, ⟨a2, a3, fun i i0 i1 => by rw [r38 i i1]; exact a4 i i0 i1⟩, ⟨a5.1, a5.2.1, a5.2.2.mono g h1⟩, fun z => ⟨(a6 z).1, (a6 z).2.1, (a6 z).2.2.mono g h1⟩⟩, ?_⟩
    have ep : (List.range (y.2.1 37 d).toNat).map (fun i : Nat => ob w (w.2.1 38 (6 * d + (i : Int)))) = (List.range (y.2.1 37 d).toNat).map (fun i : Nat => ob y (y.2.1 38 (6 * d + (i : Int)))) := List.map_congr_left (fun i hi => by
      have := List.mem_range.mp hi
      rw [eo, r38 (i : Int) (by omega)])
    rw [ep]
  have nd : ∀ {k : Int}, Nd y (H.env m) k → Nd w ((Sp.addDef H D).env m) k ∧ ob w k = ob y k := fun {k} hk => by
    obtain ⟨a, b, c, d⟩ := hk
    refine ⟨⟨a, by rw [w8]; exact b, by rw [eo]; exact c.mono g h1, ?_⟩, eo k⟩
    rw [eo]
    exact wt_mono (fun f hf => arOf_app f hf) d
  refine ⟨g.1, g.2.1, ⟨⟨?_, by rw [w35]; have := hD.2.1; omega, fun d d0 d1 => ?_⟩, w57, HWf.dwf (HOk.wf ok), ⟨?_, by rw [w42]; exact hTk.2.1, fun r r0 r1 => ?_, fun r r0 r1 => ?_⟩⟩, fun k k0 k1 => ?_, ok, by omega, ?_, ?_⟩
  · show H.1 ++ [D] = dfs w
    have d0 := hD.2.1
    have e1 : H.1 = dfs y := hD.1
    rw [e1]
    unfold dfs
    rw [w35, show (y.1 35 + 1).toNat = (y.1 35).toNat + 1 by omega, List.range_succ, List.map_append]
    refine congr (congrArg _ (List.map_congr_left (fun i hi => ?_)).symm) ?_
    · have := List.mem_range.mp hi
      exact (old (i : Int) (by omega) (by omega)).2
    · show [D] = [dfn1 w ((y.1 35).toNat : Int)]
      rw [show (((y.1 35).toNat : Nat) : Int) = y.1 35 by omega, eD]
  · by_cases c : d = y.1 35
    · rw [c]; exact nD
    · exact (old d d0 (by omega)).1
  · show H.2.1 = thmsL w
    have e1 : H.2.1 = thmsL y := hTk.1
    rw [e1]
    unfold thmsL
    rw [w42]
    refine (List.map_congr_left (fun i hi => ?_)).symm
    unfold thm1 hypL
    rw [wt 43 (by decide) (by decide), wt 44 (by decide) (by decide), wt 45 (by decide) (by decide), wt 46 (by decide) (by decide), wt 47 (by decide) (by decide), wt 48 (by decide) (by decide), wt 49 (by decide) (by decide), wt 50 (by decide) (by decide), wt 51 (by decide) (by decide), wt 52 (by decide) (by decide)]
    simp only [eo]
  · obtain ⟨a1, a2, a3⟩ := hTk.2.2.1 r r0 (by omega)
    unfold Th1
    rw [wt 43 (by decide) (by decide), wt 44 (by decide) (by decide), wt 46 (by decide) (by decide), wt 47 (by decide) (by decide), wt 48 (by decide) (by decide), wt 49 (by decide) (by decide), w8]
    refine ⟨a1, a2, fun z => ?_⟩
    obtain ⟨c1, c2, c3, c4, c5, c6⟩ := a3 z
    refine ⟨(nd c1).1, by rw [eo]; exact c2, (nd c3).1, c4, by rw [eo, eo]; exact c5, fun i i0 i1 => ⟨(nd (c6 i i0 i1).1).1, by rw [eo, eo]; exact (c6 i i0 i1).2⟩⟩
  · rw [wt 53 (by decide) (by decide), wt 43 (by decide) (by decide), eo]
    exact hTk.2.2.2 r r0 (by omega)
  · rw [wt 44 (by decide) (by decide)]
    exact (nd (h4 k k0 (by omega))).1
  · rw [srt_app h6 w54 w55, ← h7]; rfl
  · refine Mk_app hh bg w54 w55 w56 w8 (fun d M d0 d1 hl => ?_) (fun k M k0 k1 hl => ?_)
    · obtain ⟨a, b, c, e⟩ := hl
      have b37 := (hD.2.2 d d0 d1).2.1
      unfold DLow
      rw [wd 36 d (by decide) (by decide) (by decide) d0 d1, wd 37 d (by decide) (by decide) (by decide) d0 d1, wd 39 d (by decide) (by decide) (by decide) d0 d1, wd 40 d (by decide) (by decide) (by decide) d0 d1, wd 41 d (by decide) (by decide) (by decide) d0 d1]
      exact ⟨a, fun i i0 i1 => by rw [w38 _ (by omega)]; exact b i i0 i1, c, e⟩
    · unfold TLow at hl ⊢
      rw [wt 43 (by decide) (by decide), wt 44 (by decide) (by decide), wt 46 (by decide) (by decide), wt 47 (by decide) (by decide), wt 48 (by decide) (by decide), wt 49 (by decide) (by decide)]
      exact hl
/-- a theorem -/
theorem HX_thm [DecidableEq Ob] {y w : iST} {H : Sp.Hs} {m : List Ob} {N F : Int} {c : Int} (h : HX y H m) (bg : BgOk y) (g : GZ (fun _ => true) y w) (w8 : w.1 8 = y.1 8) (w57 : w.1 57 = -1) (w35 : w.1 35 = y.1 35) (wd : ∀ k, 36 ≤ k → k ≤ 41 → w.2.1 k = y.2.1 k)
    (w42 : w.1 42 = y.1 42 + 1) (wt : ∀ k d, 43 ≤ k → k ≤ 53 → k ≠ 49 → 0 ≤ d → d < y.1 42 → w.2.1 k d = y.2.1 k d) (w49 : ∀ i, i < 120 * y.1 42 → w.2.1 49 i = y.2.1 49 i)
    (nN : 0 ≤ N ∧ N < y.1 8 ∧ (ob y N).isName = true) (nF : Nd y (H.env m) F) (zF : (ob y F).sz ≤ 120) (e43 : w.2.1 43 (y.1 42) = N) (e44 : w.2.1 44 (y.1 42) = F) (e45 : w.2.1 45 (y.1 42) = c) (hc : c ≠ 1) (ru : RuO w (H.env m) (y.1 42) (Sp.ruleOf (ob y F))) (nm : Ob.has m (ob y N) = false) (fr : ∀ X, X ∈ H.2.1 → X.1 ≠ ob y N)
    (w54 : w.1 54 = y.1 54 + 1) (w55 : ∀ i, w.2.1 55 i = if i = y.1 54 then c else y.2.1 55 i) (w56 : ∀ i, w.2.1 56 i = if i = y.1 54 then y.1 132 else y.2.1 56 i) : HX w (Sp.addThm H (ob y N) (ob y F) c) m := by
  have hh := h
  obtain ⟨h1, h2, ⟨hD, h57, hW, hTk⟩, h4, h5, h6, h7, h8⟩ := h
  have eo : ∀ j, 0 ≤ j → j < y.1 8 → ob w j = ob y j := fun j a b => g.ob h1 a b
  have ok := HOk.addThm h5 hc nN.2.2 nF.2.2.2 zF fr
  have h48 := hh.hyps
  have nd : ∀ {k : Int}, Nd y (H.env m) k → Nd w ((Sp.addThm H (ob y N) (ob y F) c).env m) k ∧ ob w k = ob y k := fun {k} hk => hk.mono h1 g
  have old : ∀ r, 0 ≤ r → r < y.1 42 → Th1 w ((Sp.addThm H (ob y N) (ob y F) c).env m) r ∧ thm1 w r = thm1 y r := by
    intro r r0 r1
    have q : ∀ k, 43 ≤ k → k ≤ 53 → k ≠ 49 → w.2.1 k r = y.2.1 k r := fun k a b e => wt k r a b e r0 r1
    obtain ⟨a1, a2, a3⟩ := hTk.2.2.1 r r0 r1
    refine ⟨?_, ?_⟩
    · unfold Th1
      rw [q 43 (by decide) (by decide) (by decide), q 44 (by decide) (by decide) (by decide), q 46 (by decide) (by decide) (by decide), q 47 (by decide) (by decide) (by decide), q 48 (by decide) (by decide) (by decide), w8]
      refine ⟨a1, a2, fun z => ?_⟩
      obtain ⟨c1, c2, c3, c4, c5, c6⟩ := a3 z
      have := h48 r r0 r1 z
      refine ⟨(nd c1).1, by rw [(nd c1).2]; exact c2, (nd c3).1, c4, by rw [(nd c1).2, (nd c3).2]; exact c5, fun i i0 i1 => ?_⟩
      rw [w49 _ (by omega)]
      have n3 := nd (c6 i i0 i1).1
      exact ⟨n3.1, by rw [n3.2, (nd c1).2]; exact (c6 i i0 i1).2⟩
    · unfold thm1 hypL
      rw [q 43 (by decide) (by decide) (by decide), q 44 (by decide) (by decide) (by decide), q 45 (by decide) (by decide) (by decide), q 46 (by decide) (by decide) (by decide), q 47 (by decide) (by decide) (by decide), q 48 (by decide) (by decide) (by decide), q 50 (by decide) (by decide) (by decide), q 51 (by decide) (by decide) (by decide), q 52 (by decide) (by decide) (by decide), eo _ a1.1 a1.2, eo _ a2.1 a2.2]
      by_cases z : y.2.1 46 r = -1
      · rw [if_pos z, if_pos z]
      · rw [if_neg z, if_neg z]
        obtain ⟨c1, c2, c3, c4, c5, c6⟩ := a3 z
        have := h48 r r0 r1 z
        have eh : (List.range (y.2.1 48 r).toNat).map (fun i : Nat => ob w (w.2.1 49 (120 * r + (i : Int)))) = (List.range (y.2.1 48 r).toNat).map (fun i : Nat => ob y (y.2.1 49 (120 * r + (i : Int)))) := List.map_congr_left (fun i hi => by
          have := List.mem_range.mp hi
          rw [w49 _ (by omega)]
          exact (nd (c6 (i : Int) (by omega) (by omega)).1).2)
        rw [(nd c1).2, (nd c3).2, eh]
  have t0 := hTk.2.1
  have eN : ob w N = ob y N := eo N nN.1 nN.2.1
  have eF := nd nF
  refine ⟨g.1, g.2.1, ⟨⟨?_, by rw [w35]; exact hD.2.1, fun d d0 d1 => ?_⟩, w57, HWf.dwf (HOk.wf ok), ⟨?_, by rw [w42]; omega, fun r r0 r1 => ?_, fun r r0 r1 => ?_⟩⟩, fun k k0 k1 => ?_, ok, by omega, ?_, ?_⟩
  · show H.1 = dfs w
    have e1 : H.1 = dfs y := hD.1
    rw [e1]
    unfold dfs
    rw [w35]
    refine (List.map_congr_left (fun i hi => ?_)).symm
    have := List.mem_range.mp hi
    exact ((hD.2.2 (i : Int) (by omega) (by omega)).mono h1 g ⟨w35, wd 36 (by decide) (by decide), wd 37 (by decide) (by decide), wd 38 (by decide) (by decide), wd 39 (by decide) (by decide), wd 40 (by decide) (by decide), wd 41 (by decide) (by decide)⟩).2
  · exact ((hD.2.2 d d0 (by omega)).mono h1 g ⟨w35, wd 36 (by decide) (by decide), wd 37 (by decide) (by decide), wd 38 (by decide) (by decide), wd 39 (by decide) (by decide), wd 40 (by decide) (by decide), wd 41 (by decide) (by decide)⟩).1
  · show H.2.1 ++ [(ob y N, ob y F, c, Sp.ruleOf (ob y F))] = thmsL w
    have e1 : H.2.1 = thmsL y := hTk.1
    rw [e1]
    unfold thmsL
    rw [w42, show (y.1 42 + 1).toNat = (y.1 42).toNat + 1 by omega, List.range_succ, List.map_append]
    refine congr (congrArg _ (List.map_congr_left (fun i hi => ?_)).symm) ?_
    · have := List.mem_range.mp hi
      exact (old (i : Int) (by omega) (by omega)).2
    · show [(ob y N, ob y F, c, Sp.ruleOf (ob y F))] = [thm1 w ((y.1 42).toNat : Int)]
      rw [show (((y.1 42).toNat : Nat) : Int) = y.1 42 by omega]
      unfold thm1
      rw [e43, e44, e45, eN, eF.2]
      obtain ⟨_, ru⟩ := ru
      rcases ru with ⟨r1, r2⟩ | ⟨r1, r2, _⟩
      · rw [if_pos r1, r2]
      · rw [if_neg r1, r2]
  · by_cases cr : r = y.1 42
    · rw [cr]
      obtain ⟨_, ru⟩ := ru
      unfold Th1
      rw [e43, e44, w8]
      refine ⟨⟨nN.1, nN.2.1⟩, ⟨nF.1, nF.2.1⟩, fun z => ?_⟩
      rcases ru with ⟨r1, _⟩ | ⟨_, r2, r3, r4, r5, r6, r7, r8⟩
      · exact absurd r1 z
      · have hsz : (ob w (w.2.1 46 (y.1 42))).sz ≤ 120 := by
          have hr := Sp.ruleOf_sz (E := H.env m) (F := ob y F) nF.2.2.2 r2
          have : (ob w (w.2.1 46 (y.1 42))).sz ≤ (ob y F).sz := hr.1
          omega
        exact ⟨r3, ⟨r4, hsz⟩, r5, r6.1, r7, fun i i0 i1 => ⟨r6.2 i i0 i1, r8 i i0 i1⟩⟩
    · exact (old r r0 (by omega)).1
  · by_cases cr : r = y.1 42
    · rw [cr, e43, eN, ru.1, nm]
      exact ⟨fun z => absurd rfl z, fun z => by cases z⟩
    · obtain ⟨a1, _⟩ := hTk.2.2.1 r r0 (by omega)
      rw [wt 53 r (by decide) (by decide) (by decide) r0 (by omega), wt 43 r (by decide) (by decide) (by decide) r0 (by omega), eo _ a1.1 a1.2]
      exact hTk.2.2.2 r r0 (by omega)
  · by_cases ck : k = y.1 42
    · rw [ck, e44]; exact eF.1
    · rw [wt 44 k (by decide) (by decide) (by decide) k0 (by omega)]
      exact (nd (h4 k k0 (by omega))).1
  · rw [srt_app h6 w54 w55, ← h7]; rfl
  · refine Mk_app hh bg w54 w55 w56 w8 (fun d M d0 d1 hl => ?_) (fun k M k0 k1 hl => ?_)
    · unfold DLow at hl ⊢
      rw [wd 36 (by decide) (by decide), wd 37 (by decide) (by decide), wd 38 (by decide) (by decide), wd 39 (by decide) (by decide), wd 40 (by decide) (by decide), wd 41 (by decide) (by decide)]
      exact hl
    · have q : ∀ n, 43 ≤ n → n ≤ 53 → n ≠ 49 → w.2.1 n k = y.2.1 n k := fun n a b e => wt n k a b e k0 k1
      obtain ⟨a, b, e⟩ := hl
      unfold TLow
      rw [q 43 (by decide) (by decide) (by decide), q 44 (by decide) (by decide) (by decide), q 46 (by decide) (by decide) (by decide), q 47 (by decide) (by decide) (by decide), q 48 (by decide) (by decide) (by decide)]
      refine ⟨a, b, fun z => ?_⟩
      obtain ⟨e1, e2, e3⟩ := e z
      have := h48 k k0 k1 z
      exact ⟨e1, e2, fun i i0 i1 => by rw [w49 _ (by omega)]; exact e3 i i0 i1⟩
