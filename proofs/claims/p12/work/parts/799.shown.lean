-- deps: 798
/-! the class: what is LEFT; a PROOF that is wrong -/
theorem HC.M [DecidableEq Ob] {u v : iST} {H : Sp.Hs} {m : List Ob} (h : HC u H m) (g : CG f8M f8R u v) : HC v H m := h.keep g (fun k hk => g.2.2.1 k (by unfold f8M; exact decide_eq_false (by omega))) (fun k hk => g.2.2.2 k (by unfold f8R; exact decide_eq_false (by omega)))
theorem cc_left [DecidableEq Ob] {a mk : Int} {Q : Int → iST → Prop} {y : iST} {H : Sp.Hs} {m : List Ob} {E : Sp.Env} {ls : List Sp.Cla} (h : HC y H m) (hL : LfOC y E ls) (hl : ls ≠ []) (h32 : y.1 32 = 0) (hm : y.1 29 + lenS ls ≤ 160000) (hq : ∀ ans w, HC w H m → (∀ k, k ≠ 29 → w.1 k = y.1 k) → (∀ k, f8L k = false → f8R k = false → w.2.1 k = y.2.1 k) → w.1 29 ≤ y.1 29 + lenS ls → Q ans w) : pv_11_conclude a mk Q y := by
  unfold pv_11_conclude
  refine pf_left (fun v1 => ?_)
  intro v2 e2 _
  refine ⟨fun _ => ?_, fun z => absurd (e2.trans h32) z⟩
  intro v3 e3 _
  have h15 : 0 < y.1 15 := by
    rw [hL.1]
    have : ls.length ≠ 0 := fun z => hl (List.eq_nil_of_length_eq_zero z)
    omega
  refine ⟨fun z => by omega, fun _ => ?_⟩
  refine pc_listOfLeft h.1 hL hm (fun r v g vr er h29 => ?_)
  refine pf_write (fun w gw => ?_)
  have hw := (h.M g).wr gw
  have n : ∀ k, k ≠ 29 → w.1 k = y.1 k := fun k hk => by
    rw [gw.1]
    exact g.2.2.1 k (by unfold f8M; exact decide_eq_false hk)
  have rr : ∀ k, f8L k = false → f8R k = false → w.2.1 k = y.2.1 k := fun k a b => (gw.2.2 k a).trans (g.2.2.2 k b)
  have w29 : w.1 29 ≤ y.1 29 + lenS ls := by rw [gw.1]; exact h29
  exact ⟨fun _ => hq 6 w hw n rr w29, fun _ => hq 5 w hw n rr w29⟩
/-- what a PROOF shows -/
theorem pc_shownWrong [DecidableEq Ob] {Q : Int → iST → Prop} {u : iST} {E : Sp.Env} (hT : CT u) (hC : u.1 12 = -1 → ClW u E (u.2.1 57 0)) (h45 : VN u (u.1 45)) (hm : u.1 12 = -1 → u.1 29 + 30 ≤ 160000)
    (h1 : u.1 12 ≠ -1 → ∀ r, r ≠ -1 → Q r u) (h2 : u.1 12 = -1 → (clC u (u.2.1 57 0)).all (fun x => decide (x = oc u (u.1 45))) = true → Q (-1) u) (h3 : u.1 12 = -1 → (clC u (u.2.1 57 0)).all (fun x => decide (x = oc u (u.1 45))) = false → ∀ r v, CG f8M f8R u v → VN v r → v.1 29 ≤ u.1 29 + 30 → Q r v) : pv_11_shownWrong Q u := by
  unfold pv_11_shownWrong
  intro _ _ c ec _
  rw [← ec] at hC h2 h3
  refine pv_11_shownWrong_14_i (fun x1 x2 x3 y => x1 = c ∧ y = u ∧ ∃ j : Nat, x3 = (j : Int) ∧ 0 ≤ x2 ∧ (0 < j → (j : Int) ≤ u.2.1 46 c) ∧ (x2 = 0 ↔ ∀ i : Nat, i < j → u.2.1 49 (30 * c + (i : Int)) = u.1 45)) ?_ ⟨rfl, rfl, 0, rfl, Int.le_refl _, fun z => absurd z (Nat.lt_irrefl _), ⟨fun _ i hi => absurd hi (Nat.not_lt_zero _), fun _ => rfl⟩⟩
  rintro x1 x2 x3 y ⟨b1, b2, j, b3, p2, pj, i2⟩
  rw [b1, b2, b3]
  unfold pv_11_shownWrong_14b
  intro v2 e2 _
  refine ⟨fun le => ?_, fun lt => ?_⟩
  · intro v3 e3 _
    refine ⟨fun w1 => ?_, fun w1 => ?_⟩
    · have hw : u.1 12 = -1 := e3.symm.trans w1
      have hCl := hC hw
      have inj : ∀ i : Nat, (i : Int) < u.2.1 46 c → (u.2.1 49 (30 * c + (i : Int)) = u.1 45 ↔ oc u (u.2.1 49 (30 * c + (i : Int))) = oc u (u.1 45)) := fun i hi => by
        have vi := (hCl.2.1 (i : Int) (by omega) hi).1
        exact (hT.1.inj vi.1 vi.2 h45.1 h45.2).symm
      have key : (clC u c).all (fun x => decide (x = oc u (u.1 45))) = true ↔ ∀ i : Nat, (i : Int) < u.2.1 46 c → u.2.1 49 (30 * c + (i : Int)) = u.1 45 := by
        unfold clC lsC
        rw [List.all_eq_true]
        constructor
        · intro hall i hi
          exact (inj i hi).mpr (of_decide_eq_true (hall _ (List.mem_map.mpr ⟨i, List.mem_range.mpr (by omega), rfl⟩)))
        · intro hall x hx
          obtain ⟨i, hi, e⟩ := List.mem_map.mp hx
          have hi := List.mem_range.mp hi
          rw [← e]
          exact decide_eq_true ((inj i (by omega)).mp (hall i (by omega)))
      refine ⟨fun z0 => h2 hw (key.mpr (fun i hi => i2.mp (by omega) i (by omega))), fun z0 => ?_⟩
      refine pc_listOf hT hCl (by have := hCl.1.2; have := hm hw; omega) (fun r v g vr _ h29 => h3 hw (bf_of (fun z => z0 ?_)) r v g vr (by have := hCl.1.2; omega))
      have := i2.mpr (fun i hi => key.mp z i (by have := pj (by omega); omega))
      omega
    · intro v5 e5 _
      exact h1 (fun z => w1 (e3.trans z)) v5 (fun z => w1 (by rw [e3, ← e5]; exact z))
  · intro _ _ v6 e6 _ v7 e7 _
    refine ⟨fun ne => ?_, fun eq => ?_⟩
    · intro _ _
      refine ⟨rfl, rfl, j + 1, rfl, by omega, fun _ => ?_, ⟨fun z => by omega, fun z => ?_⟩⟩
      · show (j : Int) + 1 ≤ _
        omega
      · exact absurd (by rw [e6, e7]; exact z j (Nat.lt_succ_self _)) ne
    · have eq := Decidable.not_not.mp eq
      intro _ _
      refine ⟨rfl, rfl, j + 1, rfl, by omega, fun _ => ?_, ⟨fun z i hi => ?_, fun z => ?_⟩⟩
      · show (j : Int) + 1 ≤ _
        omega
      · by_cases e : i = j
        · rw [e, ← e6, ← e7]; exact eq
        · exact i2.mp (by omega) i (by omega)
      · have := i2.mpr (fun i hi => z i (by omega))
        omega
