-- deps: 787
/-! the class: the house between calls -/
def LowD [DecidableEq Ob] (u : iST) (m d : Int) : Prop := u.2.1 0 d < m ∧ u.2.1 1 d < m ∧ u.2.1 3 d < m ∧ u.2.1 4 d < m
def LowT [DecidableEq Ob] (u : iST) (m k : Int) : Prop := u.2.1 5 k < m ∧ u.2.1 6 k < m ∧ (u.2.1 7 k ≠ -1 → u.2.1 7 k < m ∧ u.2.1 8 k < m ∧ ∀ i, 0 ≤ i → i < u.2.1 9 k → u.2.1 50 (60 * k + i) < m)
def LowAt [DecidableEq Ob] (u : iST) (m : Int) (j : Nat) : Prop := (∀ d, 0 ≤ d → d < (Sp.nd ((kdC u).take j) : Int) → LowD u m d) ∧ ∀ k, 0 ≤ k → k < ((j - Sp.nd ((kdC u).take j) : Nat) : Int) → LowT u m k
def MkC [DecidableEq Ob] (u : iST) : Prop := (44 ≤ u.1 3 ∧ u.1 3 ≤ u.1 29 ∧ LowAt u (u.1 3) (u.1 2).toNat) ∧ ∀ j, 0 ≤ j → j < u.1 2 → 44 ≤ u.2.1 15 j ∧ u.2.1 15 j ≤ u.1 3 ∧ (∀ i, 0 ≤ i → i < j → u.2.1 15 i ≤ u.2.1 15 j) ∧ LowAt u (u.2.1 15 j) j.toNat
def FmC [DecidableEq Ob] (u : iST) (E : Sp.Env) : Prop := ∀ j : Nat, (j : Int) < u.1 1 → NdC u E (u.2.1 6 (j : Int))
def HC [DecidableEq Ob] (u : iST) (H : Sp.Hs) (m : List Ob) : Prop := CT u ∧ DOc u (H.env m) ∧ TOc u (H.env m) ∧ FmC u (H.env m) ∧ (Sp.HOk H ∧ H.1.length ≤ 40 ∧ H.2.1.length ≤ 60) ∧ (0 ≤ u.1 2 ∧ H.2.2 = kdC u) ∧ MkC u ∧ (u.1 37 = -1 ∧ u.1 27 = 0) ∧ PmC u
theorem kdC_same [DecidableEq Ob] {u v : iST} (h2 : v.1 2 = u.1 2) (h14 : v.2.1 14 = u.2.1 14) : kdC v = kdC u := by
  unfold kdC
  rw [h2, h14]
theorem LowAt.same [DecidableEq Ob] {u v : iST} {m : Int} {j : Nat} (h : LowAt u m j) (h2 : v.1 2 = u.1 2) (hr : ∀ k, k ≠ 13 → (k ≤ 15 ∨ k = 50) → v.2.1 k = u.2.1 k) : LowAt v m j := by
  unfold LowAt at h ⊢
  rw [kdC_same h2 (hr 14 (by decide) (by omega))]
  unfold LowD LowT at h ⊢
  rw [hr 0 (by decide) (by omega), hr 1 (by decide) (by omega), hr 3 (by decide) (by omega), hr 4 (by decide) (by omega), hr 5 (by decide) (by omega), hr 6 (by decide) (by omega), hr 7 (by decide) (by omega), hr 8 (by decide) (by omega), hr 9 (by decide) (by omega), hr 50 (by decide) (by omega)]
  exact h
theorem MkC.same [DecidableEq Ob] {u v : iST} (h : MkC u) (h29 : u.1 3 ≤ v.1 29) (h2 : v.1 2 = u.1 2) (h3 : v.1 3 = u.1 3) (hr : ∀ k, k ≠ 13 → (k ≤ 15 ∨ k = 50) → v.2.1 k = u.2.1 k) : MkC v := by
  obtain ⟨⟨a1, a2, a3⟩, a4⟩ := h
  refine ⟨⟨by rw [h3]; exact a1, by rw [h3]; exact h29, ?_⟩, fun j j0 j1 => ?_⟩
  · rw [h3, h2]
    exact a3.same h2 hr
  · rw [h2] at j1
    obtain ⟨b1, b2, b3, b4⟩ := a4 j j0 j1
    rw [hr 15 (by decide) (by omega), h3]
    exact ⟨b1, b2, b3, b4.same h2 hr⟩
theorem HC.keep [DecidableEq Ob] {n r : Nat → Bool} {u v : iST} {H : Sp.Hs} {m : List Ob} (h : HC u H m) (g : CG n r u v) (hn : ∀ k, (k ≤ 3 ∨ k = 27 ∨ k = 37) → v.1 k = u.1 k) (hr : ∀ k, (k ≤ 15 ∨ k = 50 ∨ k = 57) → v.2.1 k = u.2.1 k) : HC v H m := by
  obtain ⟨hT, hD, hTo, hF, hO, ⟨k0, hk⟩, hM, ⟨a1, a2⟩, hP⟩ := h
  refine ⟨g.1, hD.mono hT g (hn 0 (by omega)) (fun k hk => hr k (by omega)), hTo.mono hT g (hn 1 (by omega)) (fun k _ hk => hr k (by omega)) (hr 50 (by omega)), fun j hj => ?_, hO, ⟨by rw [hn 2 (by omega)]; exact k0, ?_⟩, ?_, ⟨by rw [hn 37 (by omega)]; exact a1, by rw [hn 27 (by omega)]; exact a2⟩, ?_⟩
  · rw [hn 1 (by omega)] at hj
    rw [hr 6 (by omega)]
    exact ((hF j hj).up hT g).1
  · rw [kdC_same (hn 2 (by omega)) (hr 14 (by omega))]; exact hk
  · have := g.le
    have := hM.1.2.1
    exact hM.same (by omega) (hn 2 (by omega)) (hn 3 (by omega)) (fun k _ hk => hr k (by omega))
  · unfold PmC at hP ⊢
    rw [hr 57 (by omega)]
    exact hP
theorem kdC_len [DecidableEq Ob] {u : iST} : (kdC u).length = (u.1 2).toNat := by unfold kdC; simp
theorem dfsC_len [DecidableEq Ob] {u : iST} : (dfsC u).length = (u.1 0).toNat := by unfold dfsC; simp
theorem HC.nums [DecidableEq Ob] {u : iST} {H : Sp.Hs} {m : List Ob} (h : HC u H m) : (Sp.nd (kdC u) : Int) = u.1 0 ∧ (((u.1 2).toNat - Sp.nd (kdC u) : Nat) : Int) = u.1 1 ∧ (H.1.length : Int) = u.1 0 ∧ (H.2.1.length : Int) = u.1 1 ∧ u.1 0 + u.1 1 = u.1 2 ∧ 0 ≤ u.1 0 ∧ 0 ≤ u.1 1 := by
  obtain ⟨hT, ⟨d1, d2, d3⟩, hTo, hF, ⟨⟨o1, o2, o3⟩, _, _⟩, ⟨k0, hk⟩, hM, _⟩ := h
  have l0 : (H.1.length : Int) = u.1 0 := by
    have e : H.1 = dfsC u := d1
    rw [e, dfsC_len]
    omega
  have l1 : (H.2.1.length : Int) = u.1 1 := hTo.1
  rw [hk] at o1 o2
  rw [kdC_len] at o2
  refine ⟨by omega, by omega, l0, l1, by omega, d2, by omega⟩
theorem HC.low [DecidableEq Ob] {u : iST} {H : Sp.Hs} {m : List Ob} (h : HC u H m) : (∀ d, 0 ≤ d → d < u.1 0 → LowD u (u.1 3) d) ∧ ∀ k, 0 ≤ k → k < u.1 1 → LowT u (u.1 3) k := by
  obtain ⟨n1, n2, _⟩ := h.nums
  obtain ⟨⟨_, _, a3⟩, _⟩ := h.2.2.2.2.2.2.1
  unfold LowAt at a3
  rw [List.take_of_length_le (by rw [kdC_len]; exact Nat.le_refl _), n1, n2] at a3
  exact a3
theorem DOc.down [DecidableEq Ob] {u v : iST} {E : Sp.Env} (h : DOc u E) (hl : ∀ d, 0 ≤ d → d < u.1 0 → LowD u (v.1 29) d) (h0 : v.1 0 = u.1 0) (hr : ∀ k, k ≤ 4 → v.2.1 k = u.2.1 k) (hc : v.2.2 = u.2.2) : DOc v E := by
  obtain ⟨d1, d2, d3⟩ := h
  have eo : ∀ k, oc v k = oc u k := fun k => oc_same hc k
  refine ⟨?_, by rw [h0]; exact d2, fun d e0 e1 => ?_⟩
  · rw [d1]
    unfold dfsC dfnC
    rw [h0, hr 0 (by omega), hr 1 (by omega), hr 3 (by omega), hr 4 (by omega)]
    refine List.map_congr_left (fun i _ => ?_)
    rw [eo, eo, eo, eo]
  · rw [h0] at e1
    obtain ⟨b1, b2, ⟨b3, b4, b5, b6⟩, b7, b8⟩ := d3 d e0 e1
    obtain ⟨l1, l2, l3, l4⟩ := hl d e0 e1
    unfold D1c
    rw [hr 0 (by omega), hr 1 (by omega), hr 2 (by omega), hr 3 (by omega), hr 4 (by omega), eo, eo]
    exact ⟨⟨b1.1, l1⟩, b2, ⟨⟨b3.1, l2⟩, b4, b5, b6⟩, ⟨b7.1, l3⟩, fun z => ⟨(b8 z).1, l4⟩⟩
theorem TOc.down [DecidableEq Ob] {u v : iST} {E : Sp.Env} (h : TOc u E) (hl : ∀ k, 0 ≤ k → k < u.1 1 → LowT u (v.1 29) k) (h1 : v.1 1 = u.1 1) (hr : ∀ k, (5 ≤ k ∧ k ≤ 13) ∨ k = 50 → v.2.1 k = u.2.1 k) (hc : v.2.2 = u.2.2) : TOc v E := by
  obtain ⟨t1, t2⟩ := h
  have eo : ∀ k, oc v k = oc u k := fun k => oc_same hc k
  refine ⟨by rw [h1]; exact t1, fun r hrr => ?_⟩
  rw [h1] at hrr
  obtain ⟨⟨b1, b2, b3⟩, ⟨k, hk, c1, c2, c3⟩, b5⟩ := t2 r hrr
  obtain ⟨l1, l2, l3⟩ := hl (r : Int) (by omega) hrr
  have ehy : hypC v (r : Int) = hypC u (r : Int) := by
    unfold hypC
    rw [hr 9 (by omega), hr 50 (by omega)]
    exact List.map_congr_left (fun i _ => eo _)
  have nd : ∀ x, NdC u E x → x < v.1 29 → NdC v E x := fun x a b => ⟨⟨a.1.1, b⟩, by rw [eo]; exact a.2.1, by rw [eo]; exact a.2.2⟩
  refine ⟨?_, ⟨k, hk, ?_, ?_, ?_⟩, ?_⟩
  · unfold Th1c
    rw [hr 5 (by omega), hr 6 (by omega), hr 7 (by omega), hr 8 (by omega), hr 9 (by omega), hr 50 (by omega), eo, eo]
    refine ⟨⟨b1.1, l1⟩, ⟨b2.1, l2⟩, fun z => ?_⟩
    obtain ⟨a1, a2, a3, a4, a5, a6⟩ := b3 z
    obtain ⟨m1, m2, m3⟩ := l3 z
    refine ⟨nd _ a1 m1, a2, nd _ a3 m2, a4, a5, fun i i0 i1 => ?_⟩
    rw [eo]
    exact ⟨nd _ (a6 i i0 i1).1 (m3 i i0 i1), (a6 i i0 i1).2⟩
  · rw [hr 5 (by omega), eo]; exact c1
  · rw [hr 6 (by omega), eo]; exact c2
  · unfold rulC at c3 ⊢
    rw [hr 7 (by omega), hr 8 (by omega), hr 10 (by omega), hr 11 (by omega), hr 12 (by omega), eo, eo, ehy]
    exact c3
  · rw [hr 13 (by omega), hr 5 (by omega), eo]; exact b5
theorem HC.down [DecidableEq Ob] {u v : iST} {H : Sp.Hs} {m : List Ob} (h : HC u H m) (hTv : CT v) (h29 : v.1 29 = u.1 3) (hn : ∀ k, k ≠ 29 → v.1 k = u.1 k) (hr : ∀ k, k ≠ 30 → v.2.1 k = u.2.1 k) (hc : v.2.2 = u.2.2) : HC v H m := by
  obtain ⟨lo1, lo2⟩ := h.low
  obtain ⟨hT, hD, hTo, hF, hO, ⟨k0, hk⟩, hM, ⟨a1, a2⟩, hP⟩ := h
  have eo : ∀ k, oc v k = oc u k := fun k => oc_same hc k
  refine ⟨hTv, hD.down (by rw [h29]; exact lo1) (hn 0 (by decide)) (fun k hk => hr k (by omega)) hc, hTo.down (by rw [h29]; exact lo2) (hn 1 (by decide)) (fun k hk => hr k (by omega)) hc, fun j hj => ?_, hO, ⟨by rw [hn 2 (by decide)]; exact k0, ?_⟩, ?_, ⟨by rw [hn 37 (by decide)]; exact a1, by rw [hn 27 (by decide)]; exact a2⟩, ?_⟩
  · rw [hn 1 (by decide)] at hj
    rw [hr 6 (by decide)]
    obtain ⟨b1, b2, b3⟩ := hF j hj
    exact ⟨⟨b1.1, by rw [h29]; exact (lo2 (j : Int) (by omega) hj).2.1⟩, by rw [eo]; exact b2, by rw [eo]; exact b3⟩
  · rw [kdC_same (hn 2 (by decide)) (hr 14 (by decide))]; exact hk
  · exact hM.same (by rw [h29]; exact Int.le_refl _) (hn 2 (by decide)) (hn 3 (by decide)) (fun k _ hk => hr k (by omega))
  · unfold PmC at hP ⊢
    rw [hr 57 (by decide)]
    exact hP
/-- what is forgotten as a run begins -/
def f8Gn (k : Nat) : Bool := decide (k = 13) || decide (k = 15) || decide (29 ≤ k ∧ k ≤ 32) || decide (44 ≤ k ∧ k ≤ 50)
def FgO [DecidableEq Ob] (u v : iST) (H : Sp.Hs) : Prop := HC v H [] ∧ v.1 29 = u.1 3 ∧ (v.1 13 = 0 ∧ v.1 15 = 0 ∧ v.1 31 = 0 ∧ v.1 32 = 0) ∧ (v.1 44 = -1 ∧ v.1 45 = -1 ∧ v.1 46 = -1 ∧ v.1 47 = 0 ∧ v.1 48 = 0 ∧ v.1 49 = 0 ∧ v.1 50 = 0) ∧ (∀ k, f8Gn k = false → v.1 k = u.1 k) ∧ ∀ k, k ≠ 13 → k ≠ 30 → k ≠ 54 → v.2.1 k = u.2.1 k
theorem f8Gn_of [DecidableEq Ob] {k : Nat} (h : f8Gn k = false) : k ≠ 13 ∧ k ≠ 15 ∧ ¬ (29 ≤ k ∧ k ≤ 32) ∧ ¬ (44 ≤ k ∧ k ≤ 50) := by
  unfold f8Gn at h
  simp only [Bool.or_eq_false_iff, decide_eq_false_iff_not] at h
  exact ⟨h.1.1.1, h.1.1.2, h.1.2, h.2⟩
theorem pc_forgetLatest [DecidableEq Ob] {Q : iST → Prop} {u : iST} {H : Sp.Hs} {m : List Ob} (h : HC u H m) (hq : ∀ v, FgO u v H → Q v) : pv_11_forgetLatest Q u := by
  unfold pv_11_forgetLatest pv_9_clear
  intro y1 e1 v2 e2 _
  have g1 : CG f80 (fun k => decide (k = 54)) u y1 := by rw [e1]; exact CG_A h.1 (by omega) (by decide)
  have n1 : y1.1 = u.1 := by rw [e1]; rfl
  have r1 : ∀ k, k ≠ 54 → y1.2.1 k = u.2.1 k := fun k hk => by rw [e1]; exact iAc_ne _ _ _ hk
  have h1 : HC y1 H m := h.keep g1 (fun k _ => by rw [n1]) (fun k hk => r1 k (by omega))
  obtain ⟨⟨m1, m2, _⟩, _⟩ := h1.2.2.2.2.2.2.1
  rw [e2]
  refine pc_forget g1.1 m1 m2 (fun y2 hT2 y29 _ n2 r2 c2 => ?_)
  have h2 := h1.down hT2 y29 n2 r2 c2
  unfold pv_7_begin
  intro y3 e3 y4 e4 y5 e5
  have g5 : CG (fun k => decide (30 ≤ k ∧ k ≤ 32)) f80 y2 y5 := by
    have a3 : CG (fun k => decide (30 ≤ k ∧ k ≤ 32)) f80 y2 y3 := by rw [e3]; exact CG_I hT2 (by decide) (by decide)
    have a4 : CG (fun k => decide (30 ≤ k ∧ k ≤ 32)) f80 y3 y4 := by rw [e4]; exact CG_I a3.1 (by decide) (by decide)
    have a5 : CG (fun k => decide (30 ≤ k ∧ k ≤ 32)) f80 y4 y5 := by rw [e5]; exact CG_I a4.1 (by decide) (by decide)
    exact (a3.tr a4).tr a5
  have n5 : ∀ k, ¬ (30 ≤ k ∧ k ≤ 32) → y5.1 k = y2.1 k := fun k hk => g5.2.2.1 k (decide_eq_false hk)
  have r5 : ∀ k, y5.2.1 k = y2.2.1 k := fun k => g5.2.2.2 k rfl
  have a31 : y5.1 31 = 0 := by rw [e5, iIc_ne _ _ (by decide), e4, iIc_at]
  have a32 : y5.1 32 = 0 := by rw [e5, iIc_at]
  have h5 := h2.keep g5 (fun k hk => n5 k (by omega)) (fun k _ => r5 k)
  refine pc_muteNone g5.1 (fun y6 g6 n6 r6 c6 z6 => ?_)
  have h6 : HC y6 H [] := by
    have t42 := h5.nums
    obtain ⟨hT, hD, hTo, hF, hO, ⟨k0, hk⟩, hM, ⟨a1, a2⟩, hP⟩ := h5
    have eo : ∀ k, oc y6 k = oc y5 k := fun k => oc_same c6 k
    refine ⟨g6.1, hD.mono hT g6 (by rw [n6]) (fun k hk => r6 k (by omega)), to_13 hTo n6 c6 r6 (fun r hr => ?_), fun j hj => ?_, hO, ⟨by rw [n6]; exact k0, ?_⟩, ?_, ⟨by rw [n6]; exact a1, by rw [n6]; exact a2⟩, ?_⟩
    · have hb : y6.2.1 13 (r : Int) = 0 := z6 (r : Int) (by omega) (by have := hO.2.2; omega)
      rw [hb]
      exact ⟨fun z => absurd rfl z, fun z => by cases z⟩
    · rw [n6] at hj
      rw [r6 6 (by decide)]
      obtain ⟨b1, b2, b3⟩ := hF j hj
      exact ⟨⟨b1.1, by rw [n6]; exact b1.2⟩, by rw [eo]; exact b2, by rw [eo]; exact b3⟩
    · rw [kdC_same (by rw [n6]) (r6 14 (by decide))]; exact hk
    · exact hM.same (by rw [n6]; exact hM.1.2.1) (by rw [n6]) (by rw [n6]) (fun k h13 _ => r6 k h13)
    · unfold PmC at hP ⊢
      rw [r6 57 (by decide)]
      exact hP
  unfold pv_4_begin
  intro y7 e7 y8 e8 y9 e9 ya ea yb eb yc ec yd ed ye ee _ yf ef
  have G : ∀ {a b : iST} {k : Nat} {x : Int}, CT a → k ≠ 29 → (k = 13 ∨ k = 15 ∨ (44 ≤ k ∧ k ≤ 50)) → b = iI a k x → CG (fun k => decide (k = 13 ∨ k = 15 ∨ (44 ≤ k ∧ k ≤ 50))) f80 a b := fun ha h29 hk hb => by
    rw [hb]
    exact CG_I ha h29 (decide_eq_true hk)
  have b7 := G g6.1 (by decide) (by decide) e7
  have b8 := G b7.1 (by decide) (by decide) e8
  have b9 := G b8.1 (by decide) (by decide) e9
  have ba := G b9.1 (by decide) (by decide) ea
  have bb := G ba.1 (by decide) (by decide) eb
  have bc := G bb.1 (by decide) (by decide) ec
  have bd := G bc.1 (by decide) (by decide) ed
  have be := G bd.1 (by decide) (by decide) ee
  have bf := G be.1 (by decide) (by decide) ef
  have gF := (((((((b7.tr b8).tr b9).tr ba).tr bb).tr bc).tr bd).tr be).tr bf
  have nF : ∀ k, ¬ (k = 13 ∨ k = 15 ∨ (44 ≤ k ∧ k ≤ 50)) → yf.1 k = y6.1 k := fun k hk => gF.2.2.1 k (decide_eq_false hk)
  have rF : ∀ k, yf.2.1 k = y6.2.1 k := fun k => gF.2.2.2 k rfl
  have hH := h6.keep gF (fun k hk => nF k (by omega)) (fun k _ => rF k)
  have q13 : yf.1 13 = 0 := by rw [ef, ee, ed, ec, eb, ea, e9, e8, e7]; rfl
  have q15 : yf.1 15 = 0 := by rw [ef, ee, ed, ec, eb, ea, e9, e8]; rfl
  have q44 : yf.1 44 = -1 := by rw [ef, ee, ed, ec, eb, ea, e9]; rfl
  have q45 : yf.1 45 = -1 := by rw [ef, ee, ed, ec, eb, ea]; rfl
  have q46 : yf.1 46 = -1 := by rw [ef, ee, ed, ec, eb]; rfl
  have q47 : yf.1 47 = 0 := by rw [ef, ee, ed, ec]; rfl
  have q48 : yf.1 48 = 0 := by rw [ef, ee, ed]; rfl
  have q49 : yf.1 49 = 0 := by rw [ef, ee]; rfl
  have q50 : yf.1 50 = 0 := by rw [ef]; rfl
  refine hq yf ⟨hH, ?_, ⟨q13, q15, ?_, ?_⟩, ⟨q44, q45, q46, q47, q48, q49, q50⟩, fun k hk => ?_, fun k k13 k30 k54 => ?_⟩
  · rw [nF 29 (by decide), n6, n5 29 (by decide), y29, n1]
  · rw [nF 31 (by decide), n6]; exact a31
  · rw [nF 32 (by decide), n6]; exact a32
  · obtain ⟨f1, f2, f3, f4⟩ := f8Gn_of hk
    rw [nF k (by omega), n6, n5 k (by omega), n2 k (by omega), n1]
  · rw [rF, r6 k k13, r5, r2 k k30, r1 k k54]
