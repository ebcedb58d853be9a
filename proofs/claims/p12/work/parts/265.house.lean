/-! the house between calls -/
def nD (r : Int → Int) : Nat → Int
  | 0 => 0
  | n + 1 => nD r n + (if r (n : Int) = 1 then 1 else 0)
theorem nD_congr {r s : Int → Int} : ∀ (n : Nat), (∀ j : Nat, j < n → s j = r j) → nD s n = nD r n
  | 0, _ => rfl
  | n + 1, h => by
    show nD s n + (if s (n : Int) = 1 then 1 else 0) = nD r n + (if r (n : Int) = 1 then 1 else 0)
    rw [nD_congr n (fun j hj => h j (by omega)), h n (by omega)]
def Older (c u : iST) : Prop := TI c ∧ Core c ∧ ExtT c u ∧ (∀ d, 0 ≤ d → d < c.1 35 → DAg c u d) ∧ ∀ k, 0 ≤ k → k < c.1 42 → TAg c u k
theorem Older.tr {c u v : iST} (h : Older c u) (hE : ExtT u v) (hd : ∀ d, 0 ≤ d → d < c.1 35 → DAg u v d) (ht : ∀ k, 0 ≤ k → k < c.1 42 → TAg u v k) : Older c v := by
  obtain ⟨a, b, c', d, e⟩ := h
  refine ⟨a, b, c'.tr a hE, fun i i0 i1 => ?_, fun i i0 i1 => ?_⟩
  · obtain ⟨x1, x2, x3, x4, x5, x6⟩ := d i i0 i1
    obtain ⟨y1, y2, y3, y4, y5, y6⟩ := hd i i0 i1
    exact ⟨y1.trans x1, y2.trans x2, y3.trans x3, y4.trans x4, y5.trans x5, fun k k0 k1 => (y6 k k0 k1).trans (x6 k k0 k1)⟩
  · obtain ⟨x1, x2, x3, x4, x5, x6⟩ := e i i0 i1
    obtain ⟨y1, y2, y3, y4, y5, y6⟩ := ht i i0 i1
    exact ⟨y1.trans x1, y2.trans x2, y3.trans x3, y4.trans x4, y5.trans x5, fun k k0 k1 => (y6 k k0 k1).trans (x6 k k0 k1)⟩
def Stk (u : iST) (C : Nat → iST) : Prop := (∀ j : Nat, (j : Int) < u.1 54 → Older (C j) u ∧ (C j).1 8 = u.2.1 56 j ∧ (C j).1 35 = nD (u.2.1 55) j ∧ (C j).1 42 = j - nD (u.2.1 55) j) ∧ ∀ i j : Nat, i < j → (j : Int) < u.1 54 → Older (C i) (C j)
def HI (u : iST) (K : Int) : Prop := TI u ∧ Core u ∧ u.1 69 = 0 ∧ u.1 71 = 0 ∧ OI u ∧ (1 ≤ u.1 59 ∧ u.1 59 ≤ 1000) ∧ (0 ≤ u.1 14 ∧ u.1 14 ≤ 3000) ∧ (∀ i, 0 ≤ u.2.1 13 i ∧ u.2.1 13 i ≤ 255) ∧ (∀ i, 0 ≤ u.2.1 12 i ∧ u.2.1 12 i ≤ 255) ∧ 0 ≤ u.1 54 ∧ u.1 35 = nD (u.2.1 55) (u.1 54).toNat ∧ u.1 42 = u.1 54 - nD (u.2.1 55) (u.1 54).toNat ∧ (∃ C, Stk u C) ∧ u.1 8 + 5 * u.1 14 ≤ 44 + K ∧ 5 * (u.1 6 + u.1 14) ≤ K ∧ 5 * (u.1 11 + u.1 14) ≤ 220 + K
/-- what a run may change before something is taken -/
def fG2 (k : Nat) : Bool := fA k || decide (k = 14) || (decide (23 ≤ k) && decide (k ≤ 34))
def Kr (u v : iST) : Prop := TI v ∧ ExtT u v ∧ v.1 69 = 0 ∧ v.1 71 = 0 ∧ OI v ∧ Fx fG2 u v
theorem fA_G2 : ∀ k, fG2 k = false → fA k = false := fun k hk => by simp only [fG2, Bool.or_eq_false_iff] at hk; exact hk.1.1
theorem Kr.kp {u v w : iST} (hu : TI u) (h : Kr u v) (g : Kp v w) : Kr u w := ⟨g.1, h.2.1.tr hu g.2.1, g.2.2.1, g.2.2.2.1, g.2.2.2.2.1, h.2.2.2.2.2.tr (g.2.2.2.2.2.mono fA_G2)⟩
theorem Kr.core {u v : iST} (hT : TI u) (h : Kr u v) (hC : Core u) : Core v := by
  obtain ⟨a1, a2, a3, a4, a5, a6⟩ := h
  exact hC.ext hT a2 (fx_s a6 35 rfl) (fx_s a6 42 rfl) (by rw [fx_s a6 57 rfl]; exact hC.2.2.1) (fun d _ _ => DAg.fx a6 rfl rfl rfl rfl rfl rfl d) (fun k _ _ => TAg.fx a6 rfl rfl rfl rfl rfl rfl k)
/-- the house, but for its text and its sizes -/
def HB (u : iST) : Prop := TI u ∧ Core u ∧ (1 ≤ u.1 59 ∧ u.1 59 ≤ 1000) ∧ (∀ i, 0 ≤ u.2.1 13 i ∧ u.2.1 13 i ≤ 255) ∧ (∀ i, 0 ≤ u.2.1 12 i ∧ u.2.1 12 i ≤ 255) ∧ 0 ≤ u.1 54 ∧ u.1 35 = nD (u.2.1 55) (u.1 54).toNat ∧ u.1 42 = u.1 54 - nD (u.2.1 55) (u.1 54).toNat ∧ ∃ C, Stk u C
theorem HB.kr {u v : iST} (h : HB u) (g : Kr u v) : HB v := by
  obtain ⟨h1, h2, h3, h4, h5, h6, h7, h8, C, h9⟩ := h
  have hC := g.core h1 h2
  obtain ⟨a1, a2, a3, a4, a5, a6⟩ := g
  have e54 := fx_s a6 54 rfl
  have e55 := fx_a a6 55 rfl
  have e56 := fx_a a6 56 rfl
  refine ⟨a1, hC, by rw [fx_s a6 59 rfl]; exact h3, by rw [fx_a a6 13 rfl]; exact h4, by rw [fx_a a6 12 rfl]; exact h5, by omega, by rw [fx_s a6 35 rfl, e54, e55]; exact h7, by rw [fx_s a6 42 rfl, e54, e55]; exact h8, C, fun j hj => ?_, fun i j hij hj => h9.2 i j hij (by omega)⟩
  obtain ⟨b1, b2, b3, b4⟩ := h9.1 j (by omega)
  rw [e55, e56]
  exact ⟨b1.tr a2 (fun d _ _ => DAg.fx a6 rfl rfl rfl rfl rfl rfl d) (fun k _ _ => TAg.fx a6 rfl rfl rfl rfl rfl rfl k), b2, b3, b4⟩
/-- all that came since u is forgotten -/
theorem g_forgetTo {u w : iST} {Q : iST → Prop} (hu : TI u) (h57 : u.1 57 = -1) (h : Kr u w) (hq : ∀ y, Kr u y → y.1 8 = u.1 8 → y.1 6 = u.1 6 → y.1 11 = u.1 11 → y.1 14 = w.1 14 → Q y) : w_forget (u.1 8) Q w := by
  obtain ⟨z1, z2, z3, z4, z5, z6⟩ := h
  refine g_forget z1 hu.1 z2.1.1.1 fun y y1 y2 y3 y4 y5 y6 => ?_
  obtain ⟨E1, e6, e11⟩ := z2.1.back hu y1 y3 y2
  have hs : ∀ x, IsW u x → y.2.1 3 x = u.2.1 3 x := fun x hx => by rw [y4 3 (by decide)]; exact z2.2.1 x hx
  have ey : ∀ k, fG2 k = false → y.1 k = u.1 k := fun k hk => (y6 k (by intro e; rw [e] at hk; cases hk) (by intro e; rw [e] at hk; cases hk) (by intro e; rw [e] at hk; cases hk)).trans (z6 k hk).1
  have eyr : ∀ k, fG2 k = false → y.2.1 k = u.2.1 k := fun k hk => (y4 k (by intro e; rw [e] at hk; cases hk)).trans (z6 k hk).2
  exact hq y ⟨y1, ExtT.mk0 E1 hs (ey 35 rfl) (eyr 36 rfl) (eyr 37 rfl) h57 (by rw [ey 57 rfl]; exact h57), by rw [y6 69 (by decide) (by decide) (by decide)]; exact z3, by rw [y6 71 (by decide) (by decide) (by decide)]; exact z4, OI_eq z5 (y6 16 (by decide) (by decide) (by decide)) (y6 22 (by decide) (by decide) (by decide)), fun k hk => ⟨ey k hk, eyr k hk⟩⟩ y2 e6 e11 (y6 14 (by decide) (by decide) (by decide))
theorem HB.hi {u : iST} {K : Int} (h : HB u) (h69 : u.1 69 = 0) (h71 : u.1 71 = 0) (hO : OI u) (h14 : 0 ≤ u.1 14 ∧ u.1 14 ≤ 3000) (h8 : u.1 8 + 5 * u.1 14 ≤ 44 + K) (h6 : 5 * (u.1 6 + u.1 14) ≤ K) (h11 : 5 * (u.1 11 + u.1 14) ≤ 220 + K) : HI u K := ⟨h.1, h.2.1, h69, h71, hO, h.2.2.1, h14, h.2.2.2.1, h.2.2.2.2.1, h.2.2.2.2.2.1, h.2.2.2.2.2.2.1, h.2.2.2.2.2.2.2.1, h.2.2.2.2.2.2.2.2, h8, h6, h11⟩
theorem HI.hb {u : iST} {K : Int} (h : HI u K) : HB u := ⟨h.1, h.2.1, h.2.2.2.2.2.1, h.2.2.2.2.2.2.2.1, h.2.2.2.2.2.2.2.2.1, h.2.2.2.2.2.2.2.2.2.1, h.2.2.2.2.2.2.2.2.2.2.1, h.2.2.2.2.2.2.2.2.2.2.2.1, h.2.2.2.2.2.2.2.2.2.2.2.2.1⟩
/-- something was taken -/
theorem HB.cb {u v w : iST} {c : Int} (h : HB u) (hb : u.1 132 = u.1 8) (g : Kr u v) (k : CB v w c) : HB w := by
  have hv := h.kr g
  obtain ⟨h1, h2, h3, h4, h5, h6, h7, h8, C, h9⟩ := h
  obtain ⟨v1, v2, v3, v4, v5, v6, v7, v8, C', v9⟩ := hv
  clear C' v9
  obtain ⟨a1, a2, a3, a4, a5, a6⟩ := g
  obtain ⟨b1, b2, b3, b4, b5, b6, b7, b8, b9, b10, b11, b12, b13, b14, b15, b16⟩ := k
  have e54 := fx_s a6 54 rfl
  have e55 := fx_a a6 55 rfl
  have e56 := fx_a a6 56 rfl
  have e35 := fx_s a6 35 rfl
  have e42 := fx_s a6 42 rfl
  have e132 := fx_s a6 132 rfl
  have nEq : ∀ j : Nat, (j : Int) ≤ u.1 54 → nD (w.2.1 55) j = nD (u.2.1 55) j := fun j hj => nD_congr j (fun i hi => by rw [(b12 i (by omega)).1, e55])
  have n1 : nD (w.2.1 55) (w.1 54).toNat = nD (u.2.1 55) (u.1 54).toNat + (if w.2.1 55 (v.1 54) = 1 then 1 else 0) := by
    rw [show (w.1 54).toNat = (u.1 54).toNat + 1 from by omega]
    show nD (w.2.1 55) (u.1 54).toNat + (if w.2.1 55 ((u.1 54).toNat : Int) = 1 then 1 else 0) = _
    rw [nEq _ (by omega), show ((u.1 54).toNat : Int) = v.1 54 from by omega]
  have newO : Older u w := ⟨h1, h2, a2.tr h1 b2, fun d d0 d1 => ?_, fun i i0 i1 => ?_⟩
  · have oldO : ∀ c, Older c u → c.1 35 ≤ u.1 35 → c.1 42 ≤ u.1 42 → Older c w := fun c hc q1 q2 => hc.tr newO.2.2.1 (fun d d0 d1 => newO.2.2.2.1 d d0 (by omega)) (fun i i0 i1 => newO.2.2.2.2 i i0 (by omega))
    have mono : ∀ (r : Int → Int) (a b : Nat), a ≤ b → nD r a ≤ nD r b ∧ nD r b ≤ nD r a + (b - a) := by
      intro r a b hab
      induction b with
      | zero => have : a = 0 := by omega
                subst this; exact ⟨Int.le_refl _, by omega⟩
      | succ b ih =>
        by_cases e : a = b + 1
        · subst e; exact ⟨Int.le_refl _, by omega⟩
        · have := ih (by omega)
          have e2 : nD r (b + 1) = nD r b + (if r (b : Int) = 1 then 1 else 0) := rfl
          rw [e2]
          split <;> omega
    refine ⟨b1, b6, by rw [fx_s b7 59 rfl, fx_s a6 59 rfl]; exact h3, by rw [fx_a b7 13 rfl, fx_a a6 13 rfl]; exact h4, by rw [fx_a b7 12 rfl, fx_a a6 12 rfl]; exact h5, by omega, ?_, ?_, fun j => if (j : Int) = u.1 54 then u else C j, fun j hj => ?_, fun i j hij hj => ?_⟩
    · rw [n1]
      rcases b14 with ⟨q1, q2, q3⟩ | ⟨q1, q2, q3⟩
      · rw [if_pos q1]; omega
      · rw [if_neg q1]; omega
    · rw [n1]
      rcases b14 with ⟨q1, q2, q3⟩ | ⟨q1, q2, q3⟩
      · rw [if_pos q1]; omega
      · rw [if_neg q1]; omega
    · by_cases ej : (j : Int) = u.1 54
      · simp only [if_pos ej]
        rw [nEq j (by omega), show j = (u.1 54).toNat from by omega]
        refine ⟨newO, ?_, h7, by omega⟩
        rw [show (((u.1 54).toNat : Nat) : Int) = v.1 54 from by omega, b13]
        omega
      · simp only [if_neg ej]
        have hj2 : (j : Int) < u.1 54 := by omega
        obtain ⟨c1, c2, c3, c4⟩ := h9.1 j hj2
        have m := mono (u.2.1 55) j (u.1 54).toNat (by omega)
        rw [nEq j (by omega), (b12 j (by omega)).2, e56]
        exact ⟨oldO _ c1 (by omega) (by omega), c2, c3, c4⟩
    · by_cases ei : (i : Int) = u.1 54
      · omega
      · simp only [if_neg ei]
        by_cases ej : (j : Int) = u.1 54
        · simp only [if_pos ej]
          exact (h9.1 i (by omega)).1
        · simp only [if_neg ej]
          exact h9.2 i j hij (by omega)
  · obtain ⟨x1, x2, x3, x4, x5, x6⟩ := DAg.fx a6 rfl rfl rfl rfl rfl rfl d
    obtain ⟨y1, y2, y3, y4, y5, y6⟩ := b15 d d0 (by omega)
    exact ⟨y1.trans x1, y2.trans x2, y3.trans x3, y4.trans x4, y5.trans x5, fun k k0 k1 => (y6 k k0 k1).trans (x6 k k0 k1)⟩
  · obtain ⟨x1, x2, x3, x4, x5, x6⟩ := TAg.fx a6 rfl rfl rfl rfl rfl rfl i
    obtain ⟨y1, y2, y3, y4, y5, y6⟩ := b16 i i0 (by omega)
    exact ⟨y1.trans x1, y2.trans x2, y3.trans x3, y4.trans x4, y5.trans x5, fun k k0 k1 => (y6 k k0 k1).trans (x6 k k0 k1)⟩
/-- something was taken back -/
theorem g_forgetUn {u v w : iST} {Q : iST → Prop} (h : HB u) (g : Kr u v) (hU : Un v w) (hq : ∀ y, HB y → y.1 69 = 0 → y.1 71 = 0 → OI y → y.1 8 ≤ u.1 8 → y.1 6 ≤ u.1 6 → y.1 11 ≤ u.1 11 → y.1 14 = v.1 14 → y.1 59 = u.1 59 → Q y) : w_forget (w.1 132) Q w := by
  have hv := h.kr g
  obtain ⟨h1, h2, h3, h4, h5, h6, h7, h8, C, h9⟩ := h
  obtain ⟨a1, a2, a3, a4, a5, a6⟩ := g
  obtain ⟨w1, w2, w3, w4, w5, w6⟩ := hU
  have e54 := fx_s a6 54 rfl
  have e55 := fx_a a6 55 rfl
  have e56 := fx_a a6 56 rfl
  have e35 := fx_s a6 35 rfl
  have e42 := fx_s a6 42 rfl
  obtain ⟨n, hn⟩ : ∃ n : Nat, u.1 54 = n + 1 := ⟨(u.1 54 - 1).toNat, by omega⟩
  obtain ⟨c1, c2, c3, c4⟩ := h9.1 n (by omega)
  obtain ⟨o1, o2, o3, o4, o5⟩ := c1
  have w132 : w.1 132 = (C n).1 8 := by
    rw [w4, c2, e56, show v.1 54 - 1 = (n : Int) from by omega]
  have hEw : Ext v w := by
    have t : ∀ k, k ≤ 11 → w.1 k = v.1 k ∧ w.2.1 k = v.2.1 k := fun k hk => ⟨w6 k (by omega) (by omega) (by omega) (by omega) (by omega), by rw [w1]⟩
    exact Ext_eq t (by rw [w1])
  have wT : TI w := TI_eq a1 (fun k hk => ⟨w6 k (by omega) (by omega) (by omega) (by omega) (by omega), by rw [w1]⟩) (by rw [w1])
  have hCw : Ext (C n) w := (o3.1.tr a2.1).tr hEw
  rw [w132]
  refine g_forget wT o1.1 hCw.1.1 fun y y1 y2 y3 y4 y5 y6 => ?_
  obtain ⟨E1, e6, e11⟩ := hCw.back o1 y1 y3 y2
  have hs : ∀ x, IsW (C n) x → y.2.1 3 x = (C n).2.1 3 x := fun x hx => by
    rw [y4 3 (by decide), w1, a2.2.1 x (hx.ext o1 o3), o3.2.1 x hx]
  have yr : ∀ g, g ≠ 7 → y.2.1 g = v.2.1 g := fun g hg => (y4 g hg).trans (by rw [w1])
  have ys : ∀ k, k ≠ 35 → k ≠ 42 → k ≠ 54 → k ≠ 132 → k ≠ 6 → k ≠ 8 → k ≠ 11 → k ≠ 63 → y.1 k = v.1 k := fun k k1 k2 k3 k4 k5 k6 k7 k8 => (y6 k k5 k6 k7).trans (w6 k k1 k2 k3 k4 k8)
  have y54 : y.1 54 = n := by rw [y6 54 (by decide) (by decide) (by decide)]; omega
  have nlast : nD (u.2.1 55) (u.1 54).toNat = nD (u.2.1 55) n + (if u.2.1 55 (n : Int) = 1 then 1 else 0) := by
    rw [show (u.1 54).toNat = n + 1 from by omega]; rfl
  have y35 : y.1 35 = (C n).1 35 ∧ y.1 42 = (C n).1 42 := by
    rw [y6 35 (by decide) (by decide) (by decide), y6 42 (by decide) (by decide) (by decide)]
    rw [e55, show v.1 54 - 1 = (n : Int) from by omega] at w5
    rcases w5 with ⟨q1, q2, q3⟩ | ⟨q1, q2, q3⟩
    · rw [if_pos q1] at nlast; omega
    · rw [if_neg q1] at nlast; omega
  have y57 : y.1 57 = -1 := by rw [ys 57 (by decide) (by decide) (by decide) (by decide) (by decide) (by decide) (by decide) (by decide), fx_s a6 57 rfl]; exact h2.2.2.1
  have dA : ∀ d, 0 ≤ d → d < (C n).1 35 → DAg (C n) y d := fun d d0 d1 => by
    obtain ⟨x1, x2, x3, x4, x5, x6⟩ := o4 d d0 d1
    refine ⟨?_, ?_, ?_, ?_, ?_, fun k k0 k1 => ?_⟩
    · rw [yr 36 (by decide), fx_a a6 36 rfl]; exact x1
    · rw [yr 37 (by decide), fx_a a6 37 rfl]; exact x2
    · rw [yr 39 (by decide), fx_a a6 39 rfl]; exact x3
    · rw [yr 40 (by decide), fx_a a6 40 rfl]; exact x4
    · rw [yr 41 (by decide), fx_a a6 41 rfl]; exact x5
    · rw [yr 38 (by decide), fx_a a6 38 rfl]; exact x6 k k0 k1
  have tA : ∀ k, 0 ≤ k → k < (C n).1 42 → TAg (C n) y k := fun d d0 d1 => by
    obtain ⟨x1, x2, x3, x4, x5, x6⟩ := o5 d d0 d1
    refine ⟨?_, ?_, ?_, ?_, ?_, fun k k0 k1 => ?_⟩
    · rw [yr 43 (by decide), fx_a a6 43 rfl]; exact x1
    · rw [yr 44 (by decide), fx_a a6 44 rfl]; exact x2
    · rw [yr 46 (by decide), fx_a a6 46 rfl]; exact x3
    · rw [yr 47 (by decide), fx_a a6 47 rfl]; exact x4
    · rw [yr 48 (by decide), fx_a a6 48 rfl]; exact x5
    · rw [yr 49 (by decide), fx_a a6 49 rfl]; exact x6 k k0 k1
  -- functions of the older state are functions still
  have Ear : ∀ f m, 0 ≤ f → Ar (C n) f m → Ar y f m := fun f m f0 hA => by
    obtain ⟨r, q1, q2, q3⟩ := hA
    rcases q1 with ⟨a, b, c⟩ | ⟨a, b, c⟩ | ⟨a, b, d, d0, d1, d2, d3, d4⟩ | ⟨a, b, c, d⟩
    · refine ⟨r, Or.inl ⟨a, b, c⟩, q2, ?_⟩
      rw [← q3]
      unfold Many
      rw [if_pos (show r ≤ 16 by omega), if_pos (show r ≤ 16 by omega)]
    · have := o2.2.2.1; omega
    · have hd1 := (dA d d0 d1).1
      refine ⟨r, Or.inr (Or.inr (Or.inl ⟨a, by omega, d, d0, by omega, by rw [hd1]; exact d2, fun e e0 e1 => by rw [(dA e e0 (by omega)).1]; exact d3 e e0 e1, d4⟩)), q2, ?_⟩
      rw [← q3, d4]
      unfold Many
      rw [if_neg (by omega), if_neg (by omega), if_neg (by omega), if_neg (by omega), if_neg (by omega), if_neg (by omega), if_neg (by omega), if_neg (by omega), show 100 + d - 100 = d from by omega, (dA d d0 d1).2.1]
    · exact absurd d q2
  have Ey : ExtT (C n) y := ⟨E1, hs, Ear⟩
  have yC : Core y := o2.ext o1 Ey y35.1 y35.2 y57 dA tA
  have u8 := o3.1.1
  have y55 : y.2.1 55 = u.2.1 55 := by rw [yr 55 (by decide)]; exact e55
  have y56 : y.2.1 56 = u.2.1 56 := by rw [yr 56 (by decide)]; exact e56
  refine hq y ⟨y1, yC, ?_, ?_, ?_, by omega, ?_, ?_, C, fun j hj => ?_, fun i j hij hj => h9.2 i j hij (by omega)⟩ ?_ ?_ ?_ (by omega) (by omega) (by omega) ?_ ?_
  · rw [ys 59 (by decide) (by decide) (by decide) (by decide) (by decide) (by decide) (by decide) (by decide), fx_s a6 59 rfl]; exact h3
  · rw [yr 13 (by decide), fx_a a6 13 rfl]; exact h4
  · rw [yr 12 (by decide), fx_a a6 12 rfl]; exact h5
  · rw [y54, y55, y35.1, show ((n : Int)).toNat = n from by omega]; exact c3
  · rw [y54, y55, y35.2, show ((n : Int)).toNat = n from by omega]; exact c4
  · rw [y54] at hj
    obtain ⟨q1, q2, q3, q4⟩ := h9.1 j (by omega)
    have hjn := h9.2 j n (by omega) (by omega)
    rw [y55, y56]
    refine ⟨hjn.tr Ey (fun d d0 d1 => dA d d0 ?_) (fun k k0 k1 => tA k k0 ?_), q2, q3, q4⟩
    · have := hjn.2.2.2.1
      have m : ∀ (r : Int → Int) (a b : Nat), a ≤ b → nD r a ≤ nD r b := by
        intro r a b hab
        induction b with
        | zero => have : a = 0 := by omega
                  subst this; exact Int.le_refl _
        | succ b ih =>
          by_cases e : a = b + 1
          · subst e; exact Int.le_refl _
          · have := ih (by omega)
            have e2 : nD r (b + 1) = nD r b + (if r (b : Int) = 1 then 1 else 0) := rfl
            rw [e2]
            split <;> omega
      have := m (u.2.1 55) j n (by omega)
      omega
    · have m : ∀ (r : Int → Int) (a b : Nat), a ≤ b → nD r b ≤ nD r a + (b - a) := by
        intro r a b hab
        induction b with
        | zero => have : a = 0 := by omega
                  subst this; omega
        | succ b ih =>
          by_cases e : a = b + 1
          · subst e; omega
          · have := ih (by omega)
            have e2 : nD r (b + 1) = nD r b + (if r (b : Int) = 1 then 1 else 0) := rfl
            rw [e2]
            split <;> omega
      have := m (u.2.1 55) j n (by omega)
      omega
  · rw [ys 69 (by decide) (by decide) (by decide) (by decide) (by decide) (by decide) (by decide) (by decide)]; exact a3
  · rw [ys 71 (by decide) (by decide) (by decide) (by decide) (by decide) (by decide) (by decide) (by decide)]; exact a4
  · exact OI_eq a5 (ys 16 (by decide) (by decide) (by decide) (by decide) (by decide) (by decide) (by decide) (by decide)) (ys 22 (by decide) (by decide) (by decide) (by decide) (by decide) (by decide) (by decide) (by decide))
  · exact ys 14 (by decide) (by decide) (by decide) (by decide) (by decide) (by decide) (by decide) (by decide)
  · rw [ys 59 (by decide) (by decide) (by decide) (by decide) (by decide) (by decide) (by decide) (by decide)]; exact fx_s a6 59 rfl
