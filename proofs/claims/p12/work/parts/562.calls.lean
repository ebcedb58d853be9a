-- deps: 561
/-! what both are between calls: the house, fuel, the text, what waits, STEPS, LEFT, PROVED -/
abbrev Sp.St := Sp.Hs × Nat × List Int × List Int × Int × Nat × Bool
def Sp.byte [DecidableEq Ob] (x s : Int) : Int := wand (wshr x s) 255
def Sp.feedW [DecidableEq Ob] (l : List Int) : List Int := (List.range 20).map (fun i : Nat => Sp.byte (l.getD (i / 4) 0) (24 - 8 * ((i % 4 : Nat) : Int)))
def Sp.countC [DecidableEq Ob] (S : Sp.St) (k : Int) : Int :=
  if k = 0 then (S.1.1.length : Int) else if k = 1 then (S.1.2.1.length : Int) else if k = 2 then ((S.1.2.1.filter (fun t => t.rule.isSome)).length : Int)
  else if k = 3 then ((S.1.2.1.filter (fun t => t.rule.any (fun r => r.on))).length : Int) else if k = 4 then (S.2.2.2.2.2.1 : Int) else -1
def Sp.takenC [DecidableEq Ob] (H : Sp.Hs) (k : Int) : Int := if k < 0 then 0 else H.2.2.getD k.toNat 0
def Sp.endA [DecidableEq Ob] (S : Sp.St) (n : Int) : Int := if n < 0 ∨ 20 < n ∨ 3000 < (S.2.2.1.length : Int) + n then -1 else (S.2.2.1.length : Int) + n
def Sp.endS [DecidableEq Ob] (S : Sp.St) (n : Int) : Sp.St := if n < 0 ∨ 20 < n ∨ 3000 < (S.2.2.1.length : Int) + n then S else (S.1, S.2.1, S.2.2.1 ++ S.2.2.2.1.take n.toNat, List.replicate 20 0, S.2.2.2.2)
def Sp.fuelA [DecidableEq Ob] (S : Sp.St) (n : Int) : Int := if n < 1 ∨ 1000 < n then -1 else (S.2.1 : Int)
def Sp.fuelS [DecidableEq Ob] (S : Sp.St) (n : Int) : Sp.St := if n < 1 ∨ 1000 < n then S else (S.1, n.toNat, S.2.2)
def Sp.runS [DecidableEq Ob] (S : Sp.St) (r : Sp.Res) : Sp.St := (r.1, S.2.1, [], S.2.2.2.1, r.2)
/-! the reference between calls -/
def wtg [DecidableEq Ob] (u : iST) : List Int := (List.range 20).map (fun i : Nat => u.2.1 12 (i : Int))
def RfS [DecidableEq Ob] (u : iST) (S : Sp.St) : Prop := (∃ m, HX u S.1 m) ∧ u.1 64 = 0 ∧ u.1 59 = (S.2.1 : Int) ∧ (0 ≤ u.1 14 ∧ tx u 0 = S.2.2.1) ∧ wtg u = S.2.2.2.1 ∧ u.1 60 = S.2.2.2.2.1 ∧ u.1 63 = (S.2.2.2.2.2.1 : Int) ∧ bq (u.1 62) S.2.2.2.2.2.2
theorem tx_len [DecidableEq Ob] {u : iST} (h : 0 ≤ u.1 14) : ((tx u 0).length : Int) = u.1 14 := by
  unfold tx
  rw [List.length_map, List.length_range]
  omega
def f7Fd (k : Nat) : Bool := decide (12 ≤ k ∧ k ≤ 14)
theorem RfS.keep [DecidableEq Ob] {u v : iST} {S S' : Sp.St} (h : RfS u S) (g : GZ f7Fd u v) (e1 : S'.1 = S.1) (e2 : S'.2.1 = S.2.1) (e5 : S'.2.2.2.2 = S.2.2.2.2) (ht : 0 ≤ v.1 14 ∧ tx v 0 = S'.2.2.1) (hw : wtg v = S'.2.2.2.1) : RfS v S' := by
  obtain ⟨⟨m, h1⟩, h2, h3, h4, h5, h6, h7, h8⟩ := h
  have q : ∀ k, f7Fd k = false → v.1 k = u.1 k ∧ v.2.1 k = u.2.1 k := g.2.2.2.2
  refine ⟨⟨m, ?_⟩, by rw [(q 64 (by decide)).1]; exact h2, by rw [(q 59 (by decide)).1, e2]; exact h3, ht, hw, by rw [(q 60 (by decide)).1, e5]; exact h6, by rw [(q 63 (by decide)).1, e5]; exact h7, by rw [(q 62 (by decide)).1, e5]; exact h8⟩
  rw [e1]
  exact h1.keepN g (fun k a b => by unfold f7Fd; exact decide_eq_false (by omega))
theorem p_feedS [DecidableEq Ob] {a b c d e : Int} {Q : iST → Prop} {u : iST} {S : Sp.St} (hS : RfS u S) (hq : ∀ v, RfS v (S.1, S.2.1, S.2.2.1, Sp.feedW [a, b, c, d, e], S.2.2.2.2) → Q v) : pw_feed a b c d e Q u := by
  have hX := hS.1.choose_spec
  have hT := hX.1
  have hU := hX.2.1
  unfold pw_feed
  refine pw_feed_3_i (fun x1 x2 x3 x4 x5 x6 v => (x1 = a ∧ x2 = b ∧ x3 = c ∧ x4 = d ∧ x5 = e) ∧ 0 ≤ x6 ∧ x6 ≤ 4 ∧ v.1 = u.1 ∧ v.2.2 = u.2.2 ∧ (∀ k, k ≠ 12 → v.2.1 k = u.2.1 k) ∧ ∀ i : Nat, i < 20 → ((i % 4 : Nat) : Int) < x6 → v.2.1 12 (i : Int) = Sp.byte ([a, b, c, d, e].getD (i / 4) 0) (24 - 8 * ((i % 4 : Nat) : Int))) ?_ ⟨⟨rfl, rfl, rfl, rfl, rfl⟩, Int.le_refl _, by decide, rfl, rfl, fun _ _ => rfl, fun i _ h => by omega⟩
  rintro x1 x2 x3 x4 x5 x6 v ⟨⟨e1, e2, e3, e4, e5⟩, i0, i1, v1, v22, vr, v12⟩
  rw [e1, e2, e3, e4, e5]
  unfold pw_feed_3b
  refine ⟨fun h => ?_, fun h => ?_⟩
  · have g : GZ f7Fd u v := GZ_eq (GZ.rf hT hU) (fun k hk => ⟨by rw [v1], vr k (by omega)⟩) v22 (fun k hk => ⟨by rw [v1], vr k (fun z => by rw [z] at hk; cases hk)⟩)
    refine hq v (hS.keep g rfl rfl rfl ⟨by rw [v1]; exact hS.2.2.2.1.1, ?_⟩ ?_)
    · rw [tx_same (by rw [v1]) (vr 13 (by decide))]; exact hS.2.2.2.1.2
    · unfold wtg Sp.feedW
      refine List.map_congr_left (fun i hi => v12 i (List.mem_range.mp hi) (by omega))
  · intro _ _ p1 ep1 _ q1 eq1 _ _ _ y1 ey1 _ _ _ p2 ep2 _ q2 eq2 _ _ _ y2 ey2 _ _ _ p3 ep3 _ q3 eq3 _ _ _ y3 ey3 _ _ _ p4 ep4 _ q4 eq4 _ _ _ y4 ey4 _ _ _ p5 ep5 _ q5 eq5 _ _ _ y5 ey5 _
    rw [ep1] at eq1
    rw [ep2] at eq2
    rw [ep3] at eq3
    rw [ep4] at eq4
    rw [ep5] at eq5
    have r12 : ∀ j, y5.2.1 12 j = if j = 16 + x6 then q5 else if j = 12 + x6 then q4 else if j = 8 + x6 then q3 else if j = 4 + x6 then q2 else if j = x6 then q1 else v.2.1 12 j := fun j => by rw [ey5, ey4, ey3, ey2, ey1]; rfl
    refine ⟨⟨rfl, rfl, rfl, rfl, rfl⟩, by omega, by omega, by rw [ey5, ey4, ey3, ey2, ey1]; exact v1, by rw [ey5, ey4, ey3, ey2, ey1]; exact v22, fun k hk => ?_, fun i hi hlt => ?_⟩
    · rw [ey5, ey4, ey3, ey2, ey1]
      exact (if_neg hk).trans ((if_neg hk).trans ((if_neg hk).trans ((if_neg hk).trans ((if_neg hk).trans (vr k hk)))))
    · rw [r12]
      by_cases c4 : ((i % 4 : Nat) : Int) = x6
      · have hb : ∀ y, wand (wshr y (24 - 8 * x6)) 255 = Sp.byte y (24 - 8 * ((i % 4 : Nat) : Int)) := fun y => by rw [c4]; rfl
        have hd : i / 4 = 0 ∨ i / 4 = 1 ∨ i / 4 = 2 ∨ i / 4 = 3 ∨ i / 4 = 4 := by omega
        rcases hd with hd | hd | hd | hd | hd
        · rw [if_neg (by omega), if_neg (by omega), if_neg (by omega), if_neg (by omega), if_pos (by omega), eq1, hb, hd]; rfl
        · rw [if_neg (by omega), if_neg (by omega), if_neg (by omega), if_pos (by omega), eq2, hb, hd]; rfl
        · rw [if_neg (by omega), if_neg (by omega), if_pos (by omega), eq3, hb, hd]; rfl
        · rw [if_neg (by omega), if_pos (by omega), eq4, hb, hd]; rfl
        · rw [if_pos (by omega), eq5, hb, hd]; rfl
      · rw [if_neg (by omega), if_neg (by omega), if_neg (by omega), if_neg (by omega), if_neg (by omega)]
        exact v12 i hi (by omega)
theorem p_endS [DecidableEq Ob] {n : Int} {Q : Int → iST → Prop} {u : iST} {S : Sp.St} (hS : RfS u S) (hq : ∀ v, RfS v (Sp.endS S n) → Q (Sp.endA S n) v) : pw_end n Q u := by
  have hX := hS.1.choose_spec
  have hT := hX.1
  have hU := hX.2.1
  have hl := tx_len hS.2.2.2.1.1
  rw [hS.2.2.2.1.2] at hl
  have bad : (n < 0 ∨ 20 < n ∨ 3000 < (S.2.2.1.length : Int) + n) → Q (-1) u := fun h => by
    have := hq u (by unfold Sp.endS; rw [if_pos h]; exact hS)
    unfold Sp.endA at this
    rw [if_pos h] at this
    exact this
  unfold pw_end
  refine ⟨fun h => bad (Or.inl h), fun h0 => ⟨fun h => bad (Or.inr (Or.inl h)), fun h20 => ?_⟩⟩
  intro x ex _ _
  rw [ex]
  refine ⟨fun h3 => ?_, fun h3 => bad (Or.inr (Or.inr (by omega)))⟩
  have hno : ¬ (n < 0 ∨ 20 < n ∨ 3000 < (S.2.2.1.length : Int) + n) := by omega
  unfold Sp.endA Sp.endS at hq
  rw [if_neg hno, if_neg hno] at hq
  have h14 := hS.2.2.2.1.1
  refine pw_end_26_i (fun x1 x2 v => x1 = n ∧ 0 ≤ x2 ∧ x2 ≤ n ∧ v.1 = u.1 ∧ v.2.2 = u.2.2 ∧ (∀ k, k ≠ 13 → v.2.1 k = u.2.1 k) ∧ (∀ i, i < u.1 14 → v.2.1 13 i = u.2.1 13 i) ∧ ∀ i, 0 ≤ i → i < x2 → v.2.1 13 (u.1 14 + i) = u.2.1 12 i) ?_ ⟨rfl, Int.le_refl _, by omega, rfl, rfl, fun _ _ => rfl, fun _ _ => rfl, fun i i0 i1 => by omega⟩
  rintro x1 x2 v ⟨e1, a0, a1, v1, v22, vr, vl, vc⟩
  rw [e1]
  unfold pw_end_26b
  refine ⟨fun hle => ?_, fun hlt => ?_⟩
  · intro y ey _ _ w ew
    rw [v1] at ey
    have hx : x2 = n := by omega
    rw [hx] at vc
    have wn : ∀ k, k ≠ 14 → w.1 k = u.1 k := fun k hk => by rw [ew]; exact (if_neg hk).trans (by rw [v1])
    have w14 : w.1 14 = u.1 14 + n := by rw [ew, ey]; rfl
    have w2 : w.2 = v.2 := by rw [ew]; rfl
    refine pw_end_66_i (fun x z => 0 ≤ x ∧ x ≤ 20 ∧ z.1 = w.1 ∧ z.2.2 = w.2.2 ∧ (∀ k, k ≠ 12 → z.2.1 k = w.2.1 k) ∧ ∀ i, 0 ≤ i → i < x → z.2.1 12 i = 0) ?_ ⟨Int.le_refl _, by decide, rfl, rfl, fun _ _ => rfl, fun i i0 i1 => by omega⟩
    rintro x z ⟨x0, x1, z1, z22, zr, z12⟩
    unfold pw_end_66b
    refine ⟨fun hge => ?_, fun hlt2 => ?_⟩
    · intro q eq _
      rw [eq, z1, w14, ← hl]
      have zrow : ∀ k, k ≠ 12 → k ≠ 13 → z.2.1 k = u.2.1 k := fun k h12 h13 => by rw [zr k h12, w2, vr k h13]
      have z13 : z.2.1 13 = v.2.1 13 := by rw [zr 13 (by decide), w2]
      have g : GZ f7Fd u z := GZ_eq (GZ.rf hT hU) (fun k hk => ⟨by rw [z1, wn k (by omega)], zrow k (by omega) (by omega)⟩) (by rw [z22, w2, v22]) (fun k hk => by
        have := of_decide_eq_false hk
        exact ⟨by rw [z1, wn k (by omega)], zrow k (by omega) (by omega)⟩)
      refine hq z (hS.keep g rfl rfl rfl ⟨by rw [z1, w14]; omega, ?_⟩ ?_)
      · show tx z 0 = S.2.2.1 ++ S.2.2.2.1.take n.toNat
        rw [← hS.2.2.2.1.2, ← hS.2.2.2.2.1]
        unfold tx wtg
        rw [z1, w14, z13, ← List.map_take, List.take_range, show (u.1 14 + n - 0).toNat = (u.1 14 - 0).toNat + n.toNat by omega, show min n.toNat 20 = n.toNat by omega, List.range_add, List.map_append, List.map_map]
        have q1 : (List.range (u.1 14 - 0).toNat).map (fun i : Nat => v.2.1 13 (0 + (i : Int))) = (List.range (u.1 14 - 0).toNat).map (fun i : Nat => u.2.1 13 (0 + (i : Int))) := List.map_congr_left (fun i hi => vl _ (by have := List.mem_range.mp hi; omega))
        rw [q1]
        refine congrArg (fun q => _ ++ q) (List.map_congr_left (fun i hi => ?_))
        have := List.mem_range.mp hi
        show v.2.1 13 (0 + (((u.1 14 - 0).toNat + i : Nat) : Int)) = u.2.1 12 (i : Int)
        rw [show (0 : Int) + (((u.1 14 - 0).toNat + i : Nat) : Int) = u.1 14 + (i : Int) by omega]
        exact vc _ (by omega) (by omega)
      · show wtg z = List.replicate 20 0
        unfold wtg
        refine List.eq_replicate_iff.mpr ⟨by simp, fun y hy => ?_⟩
        obtain ⟨i, hi, ei⟩ := List.mem_map.mp hy
        have := List.mem_range.mp hi
        rw [← ei]
        exact z12 _ (by omega) (by omega)
    · intro _ _ t et _
      refine ⟨by omega, by omega, by rw [et]; exact z1, by rw [et]; exact z22, fun k hk => by rw [et]; exact (if_neg hk).trans (zr k hk), fun i i0 i1 => ?_⟩
      rw [et]
      show (if i = x then 0 else z.2.1 12 i) = 0
      by_cases q : i = x
      · rw [if_pos q]
      · rw [if_neg q]; exact z12 i i0 (by omega)
  · intro y ey _ _ _ _ c ec _ _ _ w ew _
    rw [v1] at ey
    rw [vr 12 (by decide)] at ec
    rw [ey] at ew
    refine ⟨rfl, by omega, by omega, by rw [ew]; exact v1, by rw [ew]; exact v22, fun k hk => by rw [ew]; exact (if_neg hk).trans (vr k hk), fun i hi => ?_, fun i i0 i1 => ?_⟩
    · rw [ew]
      show (if i = u.1 14 + x2 then c else v.2.1 13 i) = _
      rw [if_neg (by omega), vl i hi]
    · rw [ew]
      show (if u.1 14 + i = u.1 14 + x2 then c else v.2.1 13 (u.1 14 + i)) = _
      by_cases q : i = x2
      · rw [if_pos (by omega), ec, q]
      · rw [if_neg (by omega)]; exact vc i i0 (by omega)
theorem p_fuelS [DecidableEq Ob] {n : Int} {Q : Int → iST → Prop} {u : iST} {S : Sp.St} (hS : RfS u S) (hq : ∀ v, RfS v (Sp.fuelS S n) → Q (Sp.fuelA S n) v) : pw_fuel n Q u := by
  have hX := hS.1.choose_spec
  have bad : (n < 1 ∨ 1000 < n) → Q (-1) u := fun h => by
    have := hq u (by unfold Sp.fuelS; rw [if_pos h]; exact hS)
    unfold Sp.fuelA at this
    rw [if_pos h] at this
    exact this
  unfold pw_fuel
  refine ⟨fun h => bad (Or.inl h), fun h1 => ⟨fun h2 => ?_, fun h2 => bad (Or.inr (by omega))⟩⟩
  have hno : ¬ (n < 1 ∨ 1000 < n) := by omega
  unfold Sp.fuelA Sp.fuelS at hq
  rw [if_neg hno, if_neg hno] at hq
  intro x ex _ v ev
  rw [ex, hS.2.2.1]
  have vn : ∀ k, k ≠ 59 → v.1 k = u.1 k := fun k hk => by rw [ev]; exact if_neg hk
  have v2 : v.2 = u.2 := by rw [ev]; rfl
  have v59 : v.1 59 = n := by rw [ev]; rfl
  have g : GZ (fun k => decide (k = 59)) u v := GZ_eq (GZ.rf hX.1 hX.2.1) (fun k hk => ⟨vn k (by omega), by rw [v2]⟩) (by rw [v2]) (fun k hk => ⟨vn k (of_decide_eq_false hk), by rw [v2]⟩)
  obtain ⟨_, h2', h3, h4, h5, h6, h7, h8⟩ := hS
  refine hq v ⟨⟨_, hX.keepN g (fun k a b => decide_eq_false (by omega))⟩, by rw [vn 64 (by decide)]; exact h2', by rw [v59]; show n = ((n.toNat : Nat) : Int); omega, ⟨by rw [vn 14 (by decide)]; exact h4.1, by rw [tx_same (vn 14 (by decide)) (by rw [v2])]; exact h4.2⟩, by unfold wtg; rw [v2]; exact h5, by rw [vn 60 (by decide)]; exact h6, by rw [vn 63 (by decide)]; exact h7, by rw [vn 62 (by decide)]; exact h8⟩
theorem p_stepsS [DecidableEq Ob] {Q : Int → iST → Prop} {u : iST} {S : Sp.St} (hS : RfS u S) (hq : Q S.2.2.2.2.1 u) : pw_steps Q u := by
  unfold pw_steps
  intro x ex _
  rw [ex, hS.2.2.2.2.2.1]
  exact hq
theorem p_recheckS [DecidableEq Ob] {Q : Int → iST → Prop} {u : iST} {S : Sp.St} (hS : RfS u S) (hq : ∀ r, bq r S.2.2.2.2.2.2 → Q r u) : pw_recheck Q u := by
  unfold pw_recheck
  intro x ex _ _
  rw [ex]
  exact hq _ hS.2.2.2.2.2.2.2
theorem p_takenS [DecidableEq Ob] {k : Int} {Q : Int → iST → Prop} {u : iST} {S : Sp.St} (hS : RfS u S) (hq : Q (Sp.takenC S.1 k) u) : pw_taken k Q u := by
  obtain ⟨m, hX⟩ := hS.1
  have h7 := hX.2.2.2.2.2.2.1
  have h54 := hX.2.2.2.2.2.1
  unfold pw_taken
  unfold Sp.takenC at hq
  refine ⟨fun h => by rw [if_pos h] at hq; exact hq, fun h => ?_⟩
  rw [if_neg h, h7] at hq
  intro x ex _
  rw [ex]
  refine ⟨fun h2 => ?_, fun h2 => ?_⟩
  · rw [List.getD_eq_getElem?_getD, List.getElem?_eq_none (by unfold srt; rw [List.length_map, List.length_range]; omega)] at hq
    exact hq
  · intro _ _ y ey _
    have e : (srt u).getD k.toNat 0 = u.2.1 55 k := by
      unfold srt
      rw [List.getD_eq_getElem?_getD, List.getElem?_map, List.getElem?_range (by omega)]
      show u.2.1 55 ((k.toNat : Nat) : Int) = _
      rw [show ((k.toNat : Nat) : Int) = k by omega]
    rw [e] at hq
    rw [ey]
    exact hq
theorem filter_snoc [DecidableEq Ob] {α : Type} (p : α → Bool) (l : List α) (x : α) : ((l ++ [x]).filter p).length = (l.filter p).length + (if p x = true then 1 else 0) := by
  rw [List.filter_append, List.length_append]
  by_cases c : p x = true
  · rw [if_pos c, List.filter_cons_of_pos c]; rfl
  · rw [if_neg c, List.filter_cons_of_neg c]; rfl
theorem p_countS [DecidableEq Ob] {k : Int} {Q : Int → iST → Prop} {u : iST} {S : Sp.St} (hS : RfS u S) (hq : Q (Sp.countC S k) u) : pw_count k Q u := by
  obtain ⟨m, hX⟩ := hS.1
  obtain ⟨hD, h57, hW, hTk⟩ := hX.2.2.1
  have e1 : S.1.1 = dfs u := hD.1
  have e2 : S.1.2.1 = thmsL u := hTk.1
  have d0 := hD.2.1
  have t0 := hTk.2.1
  have l1 : (S.1.1.length : Int) = u.1 35 := by rw [e1]; unfold dfs; rw [List.length_map, List.length_range]; omega
  have l2 : (S.1.2.1.length : Int) = u.1 42 := by rw [e2]; unfold thmsL; rw [List.length_map, List.length_range]; omega
  unfold pw_count
  refine pw_count_7_i (fun x1 x2 x3 x4 v => x1 = k ∧ v = u ∧ 0 ≤ x4 ∧ x4 ≤ u.1 42 ∧ x2 = (((S.1.2.1.take x4.toNat).filter (fun t => t.rule.isSome)).length : Int) ∧ x3 = (((S.1.2.1.take x4.toNat).filter (fun t => t.rule.any (fun r => r.on))).length : Int)) ?_ ⟨rfl, rfl, Int.le_refl _, t0, rfl, rfl⟩
  rintro x1 x2 x3 x4 v ⟨ek, ev, a0, a1, c2, c3⟩
  rw [ek, ev]
  unfold pw_count_7b
  intro y ey _
  rw [ey]
  refine ⟨fun hle => ?_, fun hlt => ?_⟩
  · rw [List.take_of_length_le (by omega)] at c2 c3
    unfold Sp.countC at hq
    refine ⟨fun h0 => ⟨fun h1 => ⟨fun h2 => ⟨fun h3 => ⟨fun h4 => ?_, fun h4 => ?_⟩, fun h3 => ?_⟩, fun h2 => ?_⟩, fun h1 => ?_⟩, fun h0 => ?_⟩
    · rw [if_neg h0, if_neg h1, if_neg h2, if_neg h3, if_neg h4] at hq; exact hq
    · rw [if_neg h0, if_neg h1, if_neg h2, if_neg h3, if_pos (Decidable.not_not.mp h4)] at hq
      intro z ez _
      rw [ez, hS.2.2.2.2.2.2.1]; exact hq
    · rw [if_neg h0, if_neg h1, if_neg h2, if_pos (Decidable.not_not.mp h3), ← c3] at hq; exact hq
    · rw [if_neg h0, if_neg h1, if_pos (Decidable.not_not.mp h2), ← c2] at hq; exact hq
    · rw [if_neg h0, if_pos (Decidable.not_not.mp h1), l2] at hq
      intro z ez _
      rw [ez]; exact hq
    · rw [if_pos (Decidable.not_not.mp h0), l1] at hq
      intro z ez _
      rw [ez]; exact hq
  · have hget : S.1.2.1[x4.toNat]? = some (thm1 u x4) := by
      rw [e2]
      unfold thmsL
      rw [List.getElem?_map, List.getElem?_range (by omega)]
      show some (thm1 u ((x4.toNat : Nat) : Int)) = _
      rw [show ((x4.toNat : Nat) : Int) = x4 by omega]
    have tk : S.1.2.1.take (x4 + 1).toNat = S.1.2.1.take x4.toNat ++ [thm1 u x4] := by
      rw [show (x4 + 1).toNat = x4.toNat + 1 by omega, List.take_add_one, hget]
      rfl
    have f2 := filter_snoc (fun t : Sp.Thm => t.rule.isSome) (S.1.2.1.take x4.toNat) (thm1 u x4)
    have f3 := filter_snoc (fun t : Sp.Thm => t.rule.any (fun r => r.on)) (S.1.2.1.take x4.toNat) (thm1 u x4)
    rw [← tk] at f2 f3
    have rl : (thm1 u x4).rule = if u.2.1 46 x4 = -1 then none else some (ob u (u.2.1 46 x4), ob u (u.2.1 47 x4), hypL u x4, decide (u.2.1 51 x4 ≠ 0), decide (u.2.1 50 x4 ≠ 0), decide (u.2.1 52 x4 ≠ 0)) := rfl
    have next : ∀ y2 y3 : Int, y2 = x2 + (if (thm1 u x4).rule.isSome = true then 1 else 0) → y3 = x3 + (if (thm1 u x4).rule.any (fun r => r.on) = true then 1 else 0) → k = k ∧ u = u ∧ 0 ≤ x4 + 1 ∧ x4 + 1 ≤ u.1 42 ∧ y2 = (((S.1.2.1.take (x4 + 1).toNat).filter (fun t => t.rule.isSome)).length : Int) ∧ y3 = (((S.1.2.1.take (x4 + 1).toNat).filter (fun t => t.rule.any (fun r => r.on))).length : Int) := by
      intro y2 y3 h2 h3
      refine ⟨rfl, rfl, by omega, by omega, ?_, ?_⟩
      · rw [f2, h2, c2]; split <;> simp
      · rw [f3, h3, c3]; split <;> simp
    intro _ _ z ez _
    rw [ez]
    refine ⟨fun hn => ?_, fun hn => ?_⟩
    · rw [if_pos hn] at rl
      unfold pw_count_33
      intro _ _ _ z2 ez2 _
      rw [ez2]
      refine ⟨fun _ => ?_, fun q => absurd hn q⟩
      unfold pw_count_61
      intro _ _
      exact next _ _ (by rw [rl]; rfl) (by rw [rl]; rfl)
    · rw [if_neg hn] at rl
      unfold pw_count_33
      intro _ _ _ z2 ez2 _
      rw [ez2]
      refine ⟨fun q => absurd q hn, fun _ => ?_⟩
      intro _ _ z3 ez3 _
      rw [ez3]
      refine ⟨fun h0 => ?_, fun h0 => ?_⟩
      · unfold pw_count_61
        intro _ _
        refine next _ _ (by rw [rl]; rfl) ?_
        rw [rl]
        show x3 + 0 = x3 + (if decide (u.2.1 52 x4 ≠ 0) = true then 1 else 0)
        rw [if_neg (by rw [decide_eq_false (fun z => z h0)]; decide)]
      · intro _ _
        refine next _ _ (by rw [rl]; rfl) ?_
        rw [rl]
        show x3 + 1 = x3 + (if decide (u.2.1 52 x4 ≠ 0) = true then 1 else 0)
        rw [if_pos (decide_eq_true h0)]
/-- a run between calls -/
theorem p_runS [DecidableEq Ob] {Q : Int → iST → Prop} {u : iST} {S : Sp.St} {K : Int} (hI : HI u K) (hK : K ≤ 51200) (hS : RfS u S) (hq : ∀ ans v r, Sp.RanT0 S.1 S.2.1 S.2.2.1 r → (v.1 14 = 0 → RfS v (Sp.runS S r)) → Q ans v) : pw_run Q u := by
  obtain ⟨⟨m, h1⟩, h2, h3, h4, h5, h6, h7, h8⟩ := hS
  refine p_run hI hK h1 h2 h3 (fun ans v r hr hO => hq ans v r (by rw [← h4.2]; exact hr) (fun v14 => ?_))
  obtain ⟨o1, o2, o3, o4, o5, o6⟩ := hO
  exact ⟨o6, o1, by rw [o2.1]; exact h3, ⟨by omega, tx_nil (by omega)⟩, by unfold wtg; rw [o2.2]; exact h5, o3, o4, o5⟩
