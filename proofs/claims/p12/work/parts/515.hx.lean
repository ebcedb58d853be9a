-- deps: 514
/-! the reference: the house is kept, taken into, taken back to a mark -/
theorem f7K_in [DecidableEq Ob] {k : Nat} (h : f7K k = false) : (12 ≤ k ∧ k ≤ 14) ∨ (35 ≤ k ∧ k ≤ 57) ∨ k = 59 ∨ k = 132 := by
  unfold f7K at h
  simp only [Bool.not_eq_false', Bool.or_eq_true, decide_eq_true_eq] at h
  omega
theorem f7Y_K [DecidableEq Ob] : ∀ k, f7K k = false → f7Y k = false := by
  intro k h
  have := f7K_in h
  unfold f7Y f7Z f7J
  simp only [Bool.or_eq_false_iff, decide_eq_false_iff_not]
  omega
theorem f7M_K [DecidableEq Ob] : ∀ k, f7K k = false → f7M k = false := by
  intro k h
  have := f7K_in h
  unfold f7M fI
  simp only [Bool.or_eq_false_iff, decide_eq_false_iff_not]
  omega
theorem f7G_K [DecidableEq Ob] : ∀ k, f7K k = false → f7G k = false := by
  intro k h
  have := f7K_in h
  unfold f7G f7M fI
  simp only [Bool.or_eq_false_iff, decide_eq_false_iff_not]
  omega
theorem f7H_K [DecidableEq Ob] : ∀ k, f7K k = false → f7H k = false := by
  intro k h
  have := f7K_in h
  unfold f7H f7M fI
  simp only [Bool.or_eq_false_iff, decide_eq_false_iff_not]
  omega
theorem f7F_K [DecidableEq Ob] : ∀ k, f7K k = false → f7F k = false := by
  intro k h
  have := f7K_in h
  unfold f7F
  simp only [Bool.or_eq_false_iff, decide_eq_false_iff_not]
  omega
theorem f7A_K [DecidableEq Ob] : ∀ k, f7K k = false → f7A k = false := by
  intro k h
  have := f7K_in h
  unfold f7A
  simp only [decide_eq_false_iff_not]
  omega
theorem f7W_K [DecidableEq Ob] : ∀ k, f7K k = false → f7W k = false := by
  intro k h
  have := f7K_in h
  unfold f7W
  simp only [decide_eq_false_iff_not]
  omega
theorem f7J_K [DecidableEq Ob] : ∀ k, f7K k = false → f7J k = false := by
  intro k h
  have := f7K_in h
  unfold f7J
  simp only [Bool.or_eq_false_iff, decide_eq_false_iff_not]
  omega
theorem f7E_K [DecidableEq Ob] : ∀ k, f7K k = false → f7E k = false := by
  intro k h
  have := f7K_in h
  unfold f7E
  simp only [Bool.or_eq_false_iff, decide_eq_false_iff_not]
  omega
theorem f7T_K [DecidableEq Ob] : ∀ k, f7K k = false → f7T k = false := by
  intro k h
  have := f7K_in h
  unfold f7T f7L
  simp only [Bool.or_eq_false_iff, decide_eq_false_iff_not]
  omega
theorem fT_K [DecidableEq Ob] : ∀ k, f7K k = false → fT k = false := by
  intro k h
  have := f7K_in h
  unfold fT
  simp only [decide_eq_false_iff_not]
  omega
theorem f7K_mid [DecidableEq Ob] : ∀ k, 35 ≤ k → k ≤ 57 → f7K k = false := fun k a b => by
  unfold f7K
  simp only [Bool.not_eq_false', Bool.or_eq_true, decide_eq_true_eq]
  omega
theorem HX.keep [DecidableEq Ob] {u v : iST} {H : Sp.Hs} {m : List Ob} (h : HX u H m) (g : GZ f7K u v) : HX v H m := by
  obtain ⟨h1, h2, h3, h4, h5, h6, h7, h8⟩ := h
  have q : ∀ k, 35 ≤ k → k ≤ 57 → v.1 k = u.1 k ∧ v.2.1 k = u.2.1 k := fun k a b => g.2.2.2.2 k (f7K_mid k a b)
  obtain ⟨k1, k2⟩ := h8.keep g.le (q 54 (by decide) (by decide)).1 (fun k a b => (q k a (by omega)).2)
  exact ⟨g.1, g.2.1, h3.keep h1 g f7K_mid, h4.mono h1 g (q 42 (by decide) (by decide)).1 (q 44 (by decide) (by decide)).2, h5, by rw [(q 54 (by decide) (by decide)).1]; exact h6, by rw [k2]; exact h7, k1⟩
/-- what was there when the run began lies below its mark -/
def BgOk [DecidableEq Ob] (v : iST) : Prop := 44 ≤ v.1 132 ∧ v.1 132 ≤ v.1 8 ∧ (∀ i, 0 ≤ i → i < v.1 54 → v.2.1 56 i ≤ v.1 132) ∧ MkAt v (v.1 132) (v.1 54).toNat
theorem BgOk.keep [DecidableEq Ob] {u v : iST} (h : BgOk u) (g : GZ f7K u v) : BgOk v := by
  obtain ⟨h1, h2, h3, h4⟩ := h
  have q : ∀ k, 35 ≤ k → k ≤ 57 → v.1 k = u.1 k ∧ v.2.1 k = u.2.1 k := fun k a b => g.2.2.2.2 k (f7K_mid k a b)
  have e132 := (g.2.2.2.2 132 (f7K_out (by decide))).1
  have e54 := (q 54 (by decide) (by decide)).1
  have es : srt v = srt u := by unfold srt; rw [e54, (q 55 (by decide) (by decide)).2]
  have hl := g.le
  exact ⟨by omega, by omega, fun i i0 i1 => by rw [(q 56 (by decide) (by decide)).2, e132]; exact h3 i i0 (by omega), by rw [e132, e54]; exact h4.keep es (fun k a b => (q k a (by omega)).2)⟩
theorem MkAt.up [DecidableEq Ob] {u : iST} {m m' : Int} {j : Nat} (h : MkAt u m j) (hm : m ≤ m') : MkAt u m' j := by
  refine ⟨fun d d0 d1 => ?_, fun k k0 k1 => ?_⟩
  · obtain ⟨a, b, c, e⟩ := h.1 d d0 d1
    exact ⟨by omega, fun i i0 i1 => by have := b i i0 i1; omega, by omega, fun z => by have := e z; omega⟩
  · obtain ⟨a, b, c⟩ := h.2 k k0 k1
    refine ⟨by omega, by omega, fun z => ?_⟩
    obtain ⟨c1, c2, c3⟩ := c z
    exact ⟨by omega, by omega, fun i i0 i1 => by have := c3 i i0 i1; omega⟩
theorem HX.nums [DecidableEq Ob] {u : iST} {H : Sp.Hs} {m : List Ob} (h : HX u H m) : (Sp.nd (srt u) : Int) = u.1 35 ∧ (((u.1 54).toNat - Sp.nd (srt u) : Nat) : Int) = u.1 42 ∧ (srt u).take (u.1 54).toNat = srt u ∧ (srt u).length = (u.1 54).toNat := by
  obtain ⟨h1, h2, ⟨hD, h57, hW, hTk⟩, h4, ⟨a1, a2, a3⟩, h6, h7, h8⟩ := h
  have l1 : H.1.length = (u.1 35).toNat := by
    have : H.1 = dfs u := hD.1
    rw [this]; unfold dfs; simp
  have l2 : H.2.1.length = (u.1 42).toNat := by
    have : H.2.1 = thmsL u := hTk.1
    rw [this]; unfold thmsL; simp
  have l3 : (srt u).length = (u.1 54).toNat := by unfold srt; simp
  rw [h7] at a1 a2
  have := hD.2.1
  have := hTk.2.1
  exact ⟨by omega, by omega, List.take_of_length_le (by omega), l3⟩
theorem Nd_back [DecidableEq Ob] {u y : iST} {E : Sp.Env} (hT : TI u) (hU : TU u) (hY : TI y) (hE : Ext y u) (h3 : u.2.1 3 = y.2.1 3) {k : Int} (h : Nd u E k) (hk : k < y.1 8) : Nd y E k ∧ ob y k = ob u k := by
  have e : ob u k = ob y k := hE.ob hY hT h.1 hk
  refine ⟨⟨h.1, hk, ?_, by rw [← e]; exact h.2.2.2⟩, e.symm⟩
  rw [← e]
  exact Tm_back hT hY hU hE h3 _ false k (Nat.lt_succ_self _) h.1 hk h.2.2.1
theorem p_forgetH [DecidableEq Ob] {n : Int} {Q : iST → Prop} {u : iST} {H : Sp.Hs} {m : List Ob} (h : HX u H m) (n0 : 44 ≤ n) (n1 : n ≤ u.1 8) (hm : ∀ i, 0 ≤ i → i < u.1 54 → u.2.1 56 i ≤ n) (hl : MkAt u n (u.1 54).toNat)
    (hq : ∀ y, HX y H m → y.1 8 = n → Ext y u → (∀ g, g ≠ 7 → y.2.1 g = u.2.1 g) → (∀ k, k ≠ 6 → k ≠ 8 → k ≠ 11 → y.1 k = u.1 k) → Q y) : pw_forget n Q u := by
  obtain ⟨e35, e42, etk, elen⟩ := h.nums
  obtain ⟨h1, h2, ⟨hD, h57, hW, hTk⟩, h4, h5, h6, h7, h8⟩ := h
  refine p_forget h1 h2 n0 n1 (fun y yT yU y8 yE yr yL yn => hq y ?_ y8 yE yr yn)
  have h3 : u.2.1 3 = y.2.1 3 := (yr 3 (by decide)).symm
  have eo : ∀ k, 0 ≤ k → k < n → ob y k = ob u k := fun k k0 k1 => (yE.ob yT h1 k0 (by omega)).symm
  unfold MkAt at hl
  rw [etk, e35, e42] at hl
  have nd : ∀ {E : Sp.Env} {k : Int}, Nd u E k → k < n → Nd y E k ∧ ob y k = ob u k := fun hk hn => Nd_back h1 h2 yT yE h3 hk (by omega)
  have tmb : ∀ k, 0 ≤ k → k < n → Tm u (ob u k) → Tm y (ob y k) := fun k k0 k1 ht => by
    rw [eo k k0 k1]
    exact Tm_back h1 yT h2 yE h3 _ false k (Nat.lt_succ_self _) k0 (by omega) ht
  have yD : ∀ d, 0 ≤ d → d < u.1 35 → D1 y d ∧ dfn1 y d = dfn1 u d := by
    intro d d0 d1
    obtain ⟨a1, ⟨a2, a3, a4⟩, a5, a6⟩ := hD.2.2 d d0 d1
    obtain ⟨b1, b2, b3, b4⟩ := hl.1 d d0 d1
    unfold D1 dfn1 prm
    rw [yr 36 (by decide), yr 37 (by decide), yr 38 (by decide), yr 39 (by decide), yr 40 (by decide), yr 41 (by decide), y8]
    refine ⟨⟨⟨a1.1, b1, by rw [eo _ a1.1 b1]; exact a1.2.2⟩, ⟨a2, a3, fun i i0 i1 => ⟨(a4 i i0 i1).1, b2 i i0 i1⟩⟩, ⟨a5.1, b3, tmb _ a5.1 b3 a5.2.2⟩, fun z => ⟨(a6 z).1, b4 z, tmb _ (a6 z).1 (b4 z) (a6 z).2.2⟩⟩, ?_⟩
    rw [eo _ a1.1 b1, eo _ a5.1 b3]
    have ep : (List.range (u.2.1 37 d).toNat).map (fun i : Nat => ob y (u.2.1 38 (6 * d + (i : Int)))) = (List.range (u.2.1 37 d).toNat).map (fun i : Nat => ob u (u.2.1 38 (6 * d + (i : Int)))) := List.map_congr_left (fun i hi => by
      have := List.mem_range.mp hi
      exact eo _ (a4 (i : Int) (by omega) (by omega)).1 (b2 (i : Int) (by omega) (by omega)))
    rw [ep]
    by_cases c : u.2.1 41 d ≠ 0
    · rw [if_pos c, if_pos c, eo _ (a6 c).1 (b4 c)]
    · rw [if_neg c, if_neg c]
  have yT' : ∀ r, 0 ≤ r → r < u.1 42 → Th1 y (H.env m) r ∧ thm1 y r = thm1 u r ∧ Nd y (H.env m) (u.2.1 44 r) := by
    intro r r0 r1
    obtain ⟨a1, a2, a3⟩ := hTk.2.2.1 r r0 r1
    obtain ⟨b1, b2, b3⟩ := hl.2 r r0 r1
    have fm := nd (h4 r r0 r1) b2
    refine ⟨?_, ?_, fm.1⟩
    · unfold Th1
      rw [yr 43 (by decide), yr 44 (by decide), yr 46 (by decide), yr 47 (by decide), yr 48 (by decide), yr 49 (by decide), y8]
      refine ⟨⟨a1.1, b1⟩, ⟨a2.1, b2⟩, fun z => ?_⟩
      obtain ⟨c1, c2, c3, c4, c5, c6⟩ := a3 z
      obtain ⟨d1, d2, d3⟩ := b3 z
      have n1 := nd c1 d1
      have n2 := nd c3 d2
      refine ⟨n1.1, by rw [n1.2]; exact c2, n2.1, c4, by rw [n1.2, n2.2]; exact c5, fun i i0 i1 => ?_⟩
      have n3 := nd (c6 i i0 i1).1 (d3 i i0 i1)
      exact ⟨n3.1, by rw [n3.2, n1.2]; exact (c6 i i0 i1).2⟩
    · unfold thm1 hypL
      rw [yr 43 (by decide), yr 44 (by decide), yr 45 (by decide), yr 46 (by decide), yr 47 (by decide), yr 48 (by decide), yr 49 (by decide), yr 50 (by decide), yr 51 (by decide), yr 52 (by decide), eo _ a1.1 b1, eo _ a2.1 b2]
      by_cases z : u.2.1 46 r = -1
      · rw [if_pos z, if_pos z]
      · rw [if_neg z, if_neg z]
        obtain ⟨c1, c2, c3, c4, c5, c6⟩ := a3 z
        obtain ⟨d1, d2, d3⟩ := b3 z
        have eh : (List.range (u.2.1 48 r).toNat).map (fun i : Nat => ob y (u.2.1 49 (120 * r + (i : Int)))) = (List.range (u.2.1 48 r).toNat).map (fun i : Nat => ob u (u.2.1 49 (120 * r + (i : Int)))) := List.map_congr_left (fun i hi => by
          have := List.mem_range.mp hi
          exact (nd (c6 (i : Int) (by omega) (by omega)).1 (d3 (i : Int) (by omega) (by omega))).2)
        rw [(nd c1 d1).2, (nd c3 d2).2, eh]
  have y35 : y.1 35 = u.1 35 := yn 35 (by decide) (by decide) (by decide)
  have y42 : y.1 42 = u.1 42 := yn 42 (by decide) (by decide) (by decide)
  have y54 : y.1 54 = u.1 54 := yn 54 (by decide) (by decide) (by decide)
  have es : srt y = srt u := by unfold srt; rw [y54, yr 55 (by decide)]
  refine ⟨yT, yU, ⟨⟨?_, by rw [y35]; exact hD.2.1, fun d d0 d1 => (yD d d0 (by omega)).1⟩, (yn 57 (by decide) (by decide) (by decide)).trans h57, hW, ⟨?_, by rw [y42]; exact hTk.2.1, fun r r0 r1 => (yT' r r0 (by omega)).1, fun r r0 r1 => ?_⟩⟩, fun k k0 k1 => by rw [yr 44 (by decide)]; exact (yT' k k0 (by omega)).2.2, h5, by omega, by rw [es]; exact h7, fun j j0 j1 => ?_⟩
  · have : (H.env m).defs = dfs u := hD.1
    rw [this]
    unfold dfs
    rw [y35]
    refine (List.map_congr_left (fun i hi => ?_)).symm
    have := List.mem_range.mp hi
    exact (yD (i : Int) (by omega) (by omega)).2
  · have : (H.env m).thms = thmsL u := hTk.1
    rw [this]
    unfold thmsL
    rw [y42]
    refine (List.map_congr_left (fun i hi => ?_)).symm
    have := List.mem_range.mp hi
    exact (yT' (i : Int) (by omega) (by omega)).2.1
  · have a := hTk.2.2.1 r r0 (by omega)
    have b := hl.2 r r0 (by omega)
    rw [yr 53 (by decide), yr 43 (by decide), eo _ a.1.1 b.1]
    exact hTk.2.2.2 r r0 (by omega)
  · rw [y54] at j1
    obtain ⟨a1, a2, a3, a4⟩ := h8 j j0 j1
    rw [yr 56 (by decide), y8]
    exact ⟨a1, hm j j0 j1, a3, a4.keep es (fun k a b => yr k (by omega))⟩
