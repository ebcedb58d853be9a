-- deps: 7583
/-! the class: proving from the notes: nothing is LEFT -/
def f8Zq (k : Nat) : Bool := f8Zp k || decide (k = 16)
theorem f8Zp_q [DecidableEq Ob] : ∀ k, f8Zq k = false → f8Zp k = false := fun k h => by unfold f8Zq at h; exact (Bool.or_eq_false_iff.mp h).1
/-- the book of w is that of s, and perhaps more -/
def BkP [DecidableEq Ob] (s w : iST) : Prop := (w.1 25 = s.1 25 ∧ s.1 0 ≤ w.1 0 ∧ s.1 1 ≤ w.1 1) ∧ (∀ k, k ≤ 4 → ∀ j, j < s.1 0 → w.2.1 k j = s.2.1 k j) ∧ (∀ k, 5 ≤ k → k ≤ 12 → ∀ j, j < s.1 1 → w.2.1 k j = s.2.1 k j) ∧ w.2.1 13 = s.2.1 13 ∧ (∀ i, i < 60 * s.1 1 → w.2.1 50 i = s.2.1 50 i) ∧ ∀ d, 0 ≤ d → d < w.1 0 → D1c w d
theorem dfn_pt [DecidableEq Ob] {n r : Nat → Bool} {s w : iST} {d : Int} (hT : CT s) (g : CG n r s w) (h : D1c s d) (hr : ∀ k, k ≤ 4 → w.2.1 k d = s.2.1 k d) : dfnC w d = dfnC s d := by
  obtain ⟨v0, nm, ⟨v1, p4, p5, p6⟩, v3, v4⟩ := h
  unfold dfnC
  rw [hr 0 (by decide), hr 1 (by decide), hr 3 (by decide), hr 4 (by decide), g.oc hT v0.1 v0.2, g.oc hT v1.1 v1.2, g.oc hT v3.1 v3.2]
  by_cases c : s.2.1 4 d = -1
  · rw [if_pos c, if_pos c]
  · rw [if_neg c, if_neg c, g.oc hT (v4 c).1 (v4 c).2]
theorem Th1c.pt0 [DecidableEq Ob] {n r : Nat → Bool} {u v : iST} {E : Sp.Env} {j : Int} (h : Th1c u E j) (hT : CT u) (g : CG n r u v) (hr : ∀ k, 5 ≤ k → k ≤ 12 → v.2.1 k j = u.2.1 k j) (h50 : ∀ i, i < 60 → v.2.1 50 (60 * j + i) = u.2.1 50 (60 * j + i)) : Th1c v E j ∧ rulC v j = rulC u j ∧ oc v (v.2.1 5 j) = oc u (u.2.1 5 j) ∧ oc v (v.2.1 6 j) = oc u (u.2.1 6 j) := by
  obtain ⟨b1, b2, b3⟩ := h
  have o5 : oc v (u.2.1 5 j) = oc u (u.2.1 5 j) := g.oc hT b1.1 b1.2
  have o6 : oc v (u.2.1 6 j) = oc u (u.2.1 6 j) := g.oc hT b2.1 b2.2
  unfold Th1c rulC hypC
  rw [hr 5 (by omega) (by omega), hr 6 (by omega) (by omega), hr 7 (by omega) (by omega), hr 8 (by omega) (by omega), hr 9 (by omega) (by omega), hr 10 (by omega) (by omega), hr 11 (by omega) (by omega), hr 12 (by omega) (by omega)]
  refine ⟨⟨b1.up g, b2.up g, fun z => ?_⟩, ?_, o5, o6⟩
  · obtain ⟨c1, c2, c3, c4, c5, c6⟩ := b3 z
    have u1 := c1.up hT g
    have u3 := c3.up hT g
    refine ⟨u1.1, by rw [u1.2]; exact c2, u3.1, c4, by rw [u1.2, u3.2]; exact c5, fun i i0 i1 => ?_⟩
    rw [h50 i (by omega), u1.2]
    have u6 := (c6 i i0 i1).1.up hT g
    exact ⟨u6.1, by rw [u6.2]; exact (c6 i i0 i1).2⟩
  · by_cases z : u.2.1 7 j = -1
    · rw [if_pos z, if_pos z]
    · rw [if_neg z, if_neg z]
      obtain ⟨c1, c2, c3, c4, c5, c6⟩ := b3 z
      rw [(c1.up hT g).2, (c3.up hT g).2]
      have e : (List.range (u.2.1 9 j).toNat).map (fun i : Nat => oc v (v.2.1 50 (60 * j + (i : Int)))) = (List.range (u.2.1 9 j).toNat).map (fun i : Nat => oc u (u.2.1 50 (60 * j + (i : Int)))) := List.map_congr_left (fun i hi => by
        have := List.mem_range.mp hi
        rw [h50 _ (by omega)]
        exact ((c6 (i : Int) (by omega) (by omega)).1.up hT g).2)
      rw [e]
theorem EnvZ.pt [DecidableEq Ob] {n r : Nat → Bool} {s w : iST} {E : Sp.Env} (h : EnvZ s E) (hT : CT s) (g : CG n r s w) (b : BkP s w) : EnvZ w E := by
  obtain ⟨⟨⟨k, e⟩, h0, h1⟩, h2, h3, ⟨t1, t2, t3⟩⟩ := h
  obtain ⟨⟨b25, b0, b1⟩, b4, b5, b13, b50, bD⟩ := b
  have hpre : (dfsC w).take (s.1 0).toNat = dfsC s := by
    unfold dfsC
    rw [← List.map_take, List.take_range, show min (s.1 0).toNat (w.1 0).toNat = (s.1 0).toNat by omega]
    refine List.map_congr_left (fun i hi => ?_)
    have hi := List.mem_range.mp hi
    exact dfn_pt hT g (h1 (i : Int) (by omega) (by omega)) (fun k hk => b4 k hk _ (by omega))
  refine ⟨⟨⟨min k (s.1 0).toNat, by rw [e, ← hpre, List.take_take]⟩, by omega, bD⟩, h2, h3, by rw [b25]; exact t1, by rw [b25]; omega, fun j hj => ?_⟩
  rw [b25] at hj
  obtain ⟨a, ⟨q, eq, q1, q2, q3⟩, c⟩ := t3 j hj
  obtain ⟨m1, m2, m3, m4⟩ := Th1c.pt0 a hT g (fun k k5 k12 => b5 k k5 k12 _ (by omega)) (fun i hi => b50 _ (by omega))
  exact ⟨m1, ⟨q, eq, by rw [m3]; exact q1, by rw [m4]; exact q2, by rw [m2]; exact q3⟩, by rw [b13, m3]; exact c⟩
theorem EnvZ.same [DecidableEq Ob] {u v : iST} {E : Sp.Env} (h : EnvZ u E) (hT : CT u) (hT' : CT v) (hE : CE u v) (hn : v.1 0 = u.1 0 ∧ v.1 1 = u.1 1 ∧ v.1 25 = u.1 25) (hr : ∀ k, k ≤ 13 ∨ k = 50 → v.2.1 k = u.2.1 k) : EnvZ v E := by
  have g : CG (fun _ => true) (fun _ => true) u v := ⟨hT', hE, fun k q => (by cases q), fun k q => (by cases q)⟩
  exact ⟨h.1.mono hT g hn.1 (fun k hk => hr k (by omega)), h.2.1, h.2.2.1, h.2.2.2.mono hT g hn.2.1 hn.2.2 (fun k h1 h2 => hr k (by omega)) (hr 50 (by omega))⟩
theorem BkP.of [DecidableEq Ob] {s w : iST} (hn : w.1 0 = s.1 0 ∧ w.1 1 = s.1 1 ∧ w.1 25 = s.1 25) (hr : ∀ k, k ≤ 13 ∨ k = 50 → w.2.1 k = s.2.1 k) (hD : ∀ d, 0 ≤ d → d < w.1 0 → D1c w d) : BkP s w := ⟨⟨hn.2.2, by omega, by omega⟩, fun k hk j _ => by rw [hr k (by omega)], fun k h1 h2 j _ => by rw [hr k (by omega)], hr 13 (by omega), fun i _ => by rw [hr 50 (by omega)], hD⟩
/-- the notes of what was PROVED are good -/
def NgI [DecidableEq Ob] (w : iST) : Prop := ∃ (E : Sp.Env) (m : Nat) (gs : List Sp.Cla) (tr : TrL), GivC w E 0 gs ∧ PvT (ExT w) m gs tr ∧ NtL E w 0 tr (w.1 26) ∧ NtG E w ∧ EnvZ w E
theorem NgI.keep [DecidableEq Ob] {u v : iST} (h : NgI u) (hT : CT u) (hT' : CT v) (hE : CE u v) (h13 : v.1 13 = u.1 13) (h26 : v.1 26 = u.1 26) (hr : ∀ k, (46 ≤ k ∧ k ≤ 49) ∨ k = 52 → v.2.1 k = u.2.1 k) (hB : BkP u v) : NgI v := by
  obtain ⟨E, m, gs, tr, h1, h2, h3, h4, h5⟩ := h
  have g : CG (fun _ => true) (fun _ => true) u v := ⟨hT', hE, fun k q => (by cases q), fun k q => (by cases q)⟩
  refine ⟨E, m, gs, tr, GivC.ot hT g (OtC.of (P := fun _ => True) (fun k a b => hr k (Or.inl ⟨a, b⟩))) h13 (fun _ _ => trivial) gs 0 h1, PvT.mono (fun o ho => ho.up hT g) _ _ _ h2, ?_, h4.keep hT g h26 (fun i _ => by rw [hr 52 (Or.inr rfl)]), h5.pt hT g hB⟩
  rw [h26]
  exact NtL.keep hT g tr _ _ h3 (fun i _ => by rw [hr 52 (Or.inr rfl)])
theorem NgI.keepS [DecidableEq Ob] {u v : iST} (h : NgI u) (hT : CT u) (hT' : CT v) (hE : CE u v) (h13 : v.1 13 = u.1 13) (h26 : v.1 26 = u.1 26) (hr : ∀ k, k ≤ 15 ∨ (46 ≤ k ∧ k ≤ 50) ∨ k = 52 → v.2.1 k = u.2.1 k) (hn : v.1 0 = u.1 0 ∧ v.1 1 = u.1 1 ∧ v.1 25 = u.1 25) : NgI v := by
  obtain ⟨E, m, gs, tr, h1, h2, h3, h4, h5⟩ := h
  have g : CG (fun _ => true) (fun _ => true) u v := ⟨hT', hE, fun k q => (by cases q), fun k q => (by cases q)⟩
  refine ⟨E, m, gs, tr, GivC.ot hT g (OtC.of (P := fun _ => True) (fun k a b => hr k (by omega))) h13 (fun _ _ => trivial) gs 0 h1, PvT.mono (fun o ho => ho.up hT g) _ _ _ h2, ?_, h4.keep hT g h26 (fun i _ => by rw [hr 52 (by omega)]), h5.same hT hT' hE hn (fun k hk => hr k (by omega))⟩
  rw [h26]
  exact NtL.keep hT g tr _ _ h3 (fun i _ => by rw [hr 52 (by omega)])
/-- what the other calls keep -/
def KpG [DecidableEq Ob] (u v : iST) : Prop := (v.1 13 = u.1 13 ∧ v.1 15 = u.1 15 ∧ v.1 26 = u.1 26 ∧ v.1 50 = u.1 50) ∧ (∀ k, k ≤ 15 ∨ (46 ≤ k ∧ k ≤ 50) ∨ k = 52 → v.2.1 k = u.2.1 k) ∧ CE u v ∧ v.1 0 = u.1 0 ∧ v.1 1 = u.1 1 ∧ v.1 25 = u.1 25
theorem KpG.rf [DecidableEq Ob] (u : iST) : KpG u u := ⟨⟨rfl, rfl, rfl, rfl⟩, fun _ _ => rfl, ⟨Int.le_refl _, fun _ _ _ => rfl⟩, rfl, rfl, rfl⟩
theorem KpG.ng [DecidableEq Ob] {u v : iST} (h : KpG u v) (hT : CT u) (hT' : CT v) (n : u.1 50 ≠ 0 → NgI u ∧ u.1 15 = 0) : v.1 50 ≠ 0 → NgI v ∧ v.1 15 = 0 := fun z => by
  rw [h.1.2.2.2] at z
  exact ⟨(n z).1.keepS hT hT' h.2.2.1 h.1.1 h.1.2.2.1 h.2.1 h.2.2.2, by rw [h.1.2.1]; exact (n z).2⟩
