/-! the class: the house between calls; its short calls -/
def HJ0 (u : iST) : Prop := RT u ∧ BL u ∧ SL u ∧ (0 ≤ u.1 39 ∧ u.1 39 ≤ 256) ∧ (u.1 37 = -1 ∧ u.1 38 = -1) ∧ CV (fun _ => False) u ∧ (0 ≤ u.1 33 ∧ u.1 33 ≤ 64) ∧ (0 ≤ u.1 13 ∧ u.1 13 ≤ 120) ∧ (0 ≤ u.1 14 ∧ u.1 14 ≤ 10) ∧ (0 ≤ u.1 15 ∧ u.1 15 ≤ 20) ∧ (1 ≤ u.1 43 ∧ u.1 43 ≤ 1000) ∧ (0 ≤ u.1 42 ∧ u.1 42 ≤ 3000) ∧ u.1 27 = 0
theorem HJ0.WK {u : iST} (h : HJ0 u) : WK u := ⟨h.1, h.2.1.BE, Or.inr h.2.2.2.2.1.1, by have := h.2.2.2.2.1.2; omega, h.2.1.TB, h.2.2.1, h.2.2.2.1⟩
def PRv (u : iST) : Prop := NF u ∧ CV (fun c => c < u.1 13) u ∧ (0 ≤ u.1 25 ∧ u.1 25 ≤ u.1 1)
def HJ (u : iST) : Prop := HJ0 u ∧ (u.1 50 ≠ 0 → PRv u)
abbrev hjS : List Nat := [4, 5, 6, 7, 8, 9, 10, 11, 12, 16, 17, 18, 19, 20, 21, 22, 23, 24, 25, 26, 28, 29, 30, 31, 32, 34, 35, 36, 40, 41, 44, 45, 46, 47, 48, 49, 50]
abbrev hjR : List Nat := [10, 11, 12, 13, 16, 17, 18, 19, 20, 21, 22, 23, 24, 25, 26, 27, 28, 29, 30, 31, 32, 33, 34, 35, 36, 37, 38, 39, 40, 41, 42, 43, 44, 45, 47, 48, 51, 52, 53, 54, 55, 56, 57]
theorem CV.len {G : Int → Prop} {u : iST} (h : CV G u) : CV (fun _ => False) u := h.less (fun _ z => z.elim)
theorem HJ0.rg {u v : iST} {S R : List Nat} (h : HJ0 u) (g : RG S R u v) (h1 : ∀ k ∈ S, k ∈ hjS) (h2 : ∀ k ∈ R, k ∈ hjR) (hs : SL v) : HJ0 v := by
  have g : RG hjS hjR u v := g.w h1 h2
  obtain ⟨a1, a2, a3, a4, a5, a6, a7, a8, a9, b1, b2, b3, b4⟩ := h
  exact ⟨g.1, a2.rg a1 g (by decide) (by decide), hs, by rw [g.s 39 (by decide)]; exact a4, by rw [g.s 37 (by decide), g.s 38 (by decide)]; exact a5, a6.keep (g.a 46 (by decide)) (g.a 49 (by decide)) g.2.1.1, by rw [g.s 33 (by decide)]; exact a7, by rw [g.s 13 (by decide)]; exact a8, by rw [g.s 14 (by decide)]; exact a9, by rw [g.s 15 (by decide)]; exact b1, by rw [g.s 43 (by decide)]; exact b2, by rw [g.s 42 (by decide)]; exact b3, by rw [g.s 27 (by decide)]; exact b4⟩
theorem PRv.rg {u v : iST} {S R : List Nat} (h : PRv u) (g : RG S R u v) (h1 : ∀ k ∈ [1, 13, 25, 26], k ∉ S) (h2 : ∀ k ∈ [46, 49, 52], k ∉ R) : PRv v := ⟨h.1.keep (g.s 26 (h1 26 (by decide))) g.2.1.1 (g.a 52 (h2 52 (by decide))), by rw [g.s 13 (h1 13 (by decide))]; exact h.2.1.keep (g.a 46 (h2 46 (by decide))) (g.a 49 (h2 49 (by decide))) g.2.1.1, by rw [g.s 25 (h1 25 (by decide)), g.s 1 (h1 1 (by decide))]; exact h.2.2⟩
theorem HJ.rg {u v : iST} {S R : List Nat} (h : HJ u) (g : RG S R u v) (h1 : ∀ k ∈ S, k ∈ hjS) (h2 : ∀ k ∈ R, k ∈ hjR) (hs : SL v) (h3 : ∀ k ∈ [1, 13, 25, 26], k ∉ S) (h4 : ∀ k ∈ [46, 49, 52], k ∉ R) (h50 : 50 ∉ S) : HJ v := ⟨h.1.rg g h1 h2 hs, fun z => (h.2 (by rw [← g.s 50 h50]; exact z)).rg g h3 h4⟩
/-- 42, 43 or the waiting ints and the text are set -/
theorem HJ.io {u v : iST} (h : HJ u) (g : RG [42, 43] [44, 45] u v) (h43 : 1 ≤ v.1 43 ∧ v.1 43 ≤ 1000) (h42 : 0 ≤ v.1 42 ∧ v.1 42 ≤ 3000) : HJ v := by
  obtain ⟨⟨a1, a2, a3, a4, a5, a6, a7, a8, a9, b1, b2, b3, b4⟩, c⟩ := h
  refine ⟨⟨g.1, a2.rg a1 g (by decide) (by decide), a3.keep (g.a 54 (by decide)), by rw [g.s 39 (by decide)]; exact a4, by rw [g.s 37 (by decide), g.s 38 (by decide)]; exact a5, a6.keep (g.a 46 (by decide)) (g.a 49 (by decide)) g.2.1.1, by rw [g.s 33 (by decide)]; exact a7, by rw [g.s 13 (by decide)]; exact a8, by rw [g.s 14 (by decide)]; exact a9, by rw [g.s 15 (by decide)]; exact b1, h43, h42, by rw [g.s 27 (by decide)]; exact b4⟩, fun z => (c (by rw [← g.s 50 (by decide)]; exact z)).rg g (by decide) (by decide)⟩
theorem j_feed {u : iST} {a b c d e : Int} {Q : iST → Prop} (h : HJ u) (hq : ∀ v, HJ v → v.1 43 = u.1 43 → v.1 42 = u.1 42 → Q v) : v_11_feed a b c d e Q u := by
  unfold v_11_feed
  refine bd_i (by decide) (by decide) (sw_e fun w1 e1 => bd_i (by decide) (by decide) (sw_e fun w2 e2 => bd_i (by decide) (by decide) (sw_e fun w3 e3 => bd_i (by decide) (by decide) (sw_e fun w4 e4 => bd_i (by decide) (by decide) (sw_e fun w e5 => ?_)))))
  have g : RG [] [45] u w := by
    rw [e5, e4, e3, e2, e1]
    exact (((((RG.rf h.1.1).A _ _ (by decide) (by decide)).A _ _ (by decide) (by decide)).A _ _ (by decide) (by decide)).A _ _ (by decide) (by decide)).A _ _ (by decide) (by decide)
  exact hq w (h.io (g.w (by decide) (by decide)) (by rw [g.n]; exact h.1.2.2.2.2.2.2.2.2.2.2.1) (by rw [g.n]; exact h.1.2.2.2.2.2.2.2.2.2.2.2.1)) (g.n 43) (g.n 42)
theorem wi2c_in (a : Int) : inC (wi2c a) := by
  unfold wi2c
  generalize (jI a).toUInt32 = x
  have h1 : (x % 65536).toNat < 65536 := by
    rw [UInt32.toNat_mod]
    exact Nat.mod_lt _ (by decide)
  have h2 : (x % 65536).toInt32.toInt = ((x % 65536).toNat : Int) := by
    show (x % 65536).toBitVec.toInt = ((x % 65536).toBitVec.toNat : Int)
    have h3 : (x % 65536).toBitVec.toNat < 65536 := h1
    rw [BitVec.toInt_eq_toNat_cond, if_pos (by omega)]
  rw [h2]
  omega
theorem j_end {u : iST} {n : Int} {Q : Int → iST → Prop} (h : HJ u) (hy : 0 ≤ n → n ≤ 20 → u.1 42 + n ≤ 3000 → ∀ v, HJ v → v.1 43 = u.1 43 → v.1 42 = u.1 42 + n → Q (u.1 42 + n) v) (hn : ¬ (0 ≤ n ∧ n ≤ 20 ∧ u.1 42 + n ≤ 3000) → Q (-1) u) : v_11_end n Q u := by
  have t := h.1.2.2.2.2.2.2.2.2.2.2.2.1
  unfold v_11_end
  refine br_i (fun h0 => hn (by omega)) fun h0 => br_i (fun h1 => hn (by omega)) fun h1 => rd_i fun _ => ov_i (by omega) (by omega) (br_i (fun h2 => ?_) fun h2 => hn (by omega))
  unfold v_11_end_26
  refine lf2 (B := fun R x1 x2 u => v_11_end_26b R Q x1 x2 u) (fun x1 x2 v => n = x1 ∧ 0 ≤ x2 ∧ RG [] [44] u v) (fun _ x2 _ => (20 - x2).toNat) ?_ ⟨rfl, Int.le_refl _, RG.rf h.1.1⟩
  intro x1 x2 v hI R ih
  obtain ⟨rfl, hx, vr⟩ := hI
  have v42 : v.1 42 = u.1 42 := vr.n 42
  unfold v_11_end_26b
  refine br_i (fun hle => rd_i fun _ => ?_) fun hgt => rd_i fun _ => ?_
  · rw [v42]
    refine ov_i (by omega) (by omega) (sw_e fun w e => fun f f1 f2 => rd_i fun _ => ?_)
    have w42 : w.1 42 = u.1 42 + n := by rw [e]; rfl
    have w43 : w.1 43 = u.1 43 := by
      have : w.1 43 = v.1 43 := by rw [e]; rfl
      rw [this, vr.n]
    have wr : RG [42, 43] [44, 45] u w := by rw [e]; exact (vr.w (by decide) (by decide)).I _ (by decide) (by decide) (by decide)
    clear e
    have zr : RG [42, 43] [44, 45] u (iRw w 45 f) := wr.put ⟨fun _ _ => rfl, fun k hk => if_neg (fun e => hk (by rw [e]; decide))⟩ rfl rfl id (fun k hk => if_neg (fun e => by rw [e] at hk; revert hk; decide)) (Sp.rf _)
    have z1 : (iRw w 45 f).1 = w.1 := rfl
    rw [z1, w42]
    exact hy (by omega) (by omega) h2 _ (h.io zr (by rw [z1, w43]; exact h.1.2.2.2.2.2.2.2.2.2.2.1) (by rw [z1]; omega)) (by rw [z1, w43]) (by rw [z1, w42])
  · rw [v42]
    have tq : Int.tdiv x2 4 = x2 / 4 := Int.tdiv_eq_ediv_of_nonneg hx
    have tm : Int.tmod x2 4 = x2 % 4 := Int.tmod_eq_emod_of_nonneg hx
    rw [tq, tm]
    refine ov_i (by omega) (by omega) ⟨by decide, bd_i (by omega) (by omega) (rd_i fun _ => ⟨by decide, ov_i (by omega) (by omega) (ov_i (by omega) (by omega) (rd_i fun _ => rd_i fun _ => rd_i fun _ => ⟨?_, bd_i (by omega) (by omega) (sw_e fun w e => ov_i (by omega) (by omega) (ih _ _ _ ⟨rfl, by omega, ?_⟩ (by omega)))⟩))⟩)⟩
    · exact wi2c_in _
    · rw [e]; exact vr.A _ _ (by decide) (by decide)
theorem j_fuel {u : iST} {n : Int} {Q : Int → iST → Prop} (h : HJ u) (hy : 1 ≤ n → n ≤ 1000 → ∀ v, HJ v → v.1 43 = n → v.1 42 = u.1 42 → Q (u.1 43) v) (hn : ¬ (1 ≤ n ∧ n ≤ 1000) → Q (-1) u) : v_11_fuel n Q u := by
  unfold v_11_fuel
  refine br_i (fun h0 => hn (by omega)) fun h0 => br_i (fun h1 => rd_i fun _ => sw_e fun w e => ?_) fun h1 => hn (by omega)
  have wr : RG [42, 43] [44, 45] u w := by rw [e]; exact (RG.rf h.1.1).I _ (by decide) (by decide) (by decide)
  have w43 : w.1 43 = n := by rw [e]; rfl
  have w42 : w.1 42 = u.1 42 := by rw [e]; rfl
  exact hy (by omega) h1 w (h.io wr (by omega) (by rw [w42]; exact h.1.2.2.2.2.2.2.2.2.2.2.2.1)) w43 w42
theorem j_fault {u : iST} {n : Int} {Q : Int → iST → Prop} (hq : ∀ r, Q r u) : v_11_fault n Q u := by
  unfold v_11_fault
  exact br_i (fun _ => rd_i fun _ => hq _) fun _ => br_i (fun _ => rd_i fun _ => hq _) fun _ => br_i (fun _ => rd_i fun _ => hq _) fun _ => hq _
theorem j_steps {u : iST} {Q : Int → iST → Prop} (hq : ∀ r, Q r u) : v_11_steps Q u := by
  unfold v_11_steps
  exact rd_i fun _ => hq _
theorem j_rules {u : iST} {a : Int} {Q : Int → iST → Prop} (h1 : 0 ≤ u.1 1 ∧ u.1 1 ≤ 60) (hq : ∀ r, Q r u) : v_0_rules a Q u := by
  unfold v_0_rules v_0_rules_4
  refine lf3 (B := fun R x1 x2 x3 u => v_0_rules_4b R Q x1 x2 x3 u) (fun x1 x2 x3 v => 0 ≤ x2 ∧ x2 ≤ x3 ∧ u = v) (fun _ _ x3 _ => (60 - x3).toNat) ?_ ⟨Int.le_refl _, Int.le_refl _, rfl⟩
  intro x1 x2 x3 v hI R ih
  obtain ⟨p2, p3, rfl⟩ := hI
  unfold v_0_rules_4b v_0_rules_40 v_0_rules_36
  refine rd_i fun _ => br_i (fun _ => hq _) fun hlt => ?_
  have k0 : ov (x2 + 0) (ov (x3 + 1) (R x1 (x2 + 0) (x3 + 1) u)) := ov_i (by omega) (by omega) (ov_i (by omega) (by omega) (ih _ _ _ _ ⟨by omega, by omega, rfl⟩ (by omega)))
  have k1 : ov (x2 + 1) (ov (x3 + 1) (R x1 (x2 + 1) (x3 + 1) u)) := ov_i (by omega) (by omega) (ov_i (by omega) (by omega) (ih _ _ _ _ ⟨by omega, by omega, rfl⟩ (by omega)))
  exact bd_i (by omega) (by omega) (rd_i fun _ => br_i (fun _ => k0) fun _ => bd_i (by omega) (by omega) (rz_i fun _ => br_i (fun _ => k1) fun _ => br_i (fun _ => k0) fun _ => k1))
theorem j_count {u : iST} {n : Int} {Q : Int → iST → Prop} (h : HJ u) (hq : ∀ r, Q r u) : v_11_count n Q u := by
  have b1 := h.1.2.1.BE.1.2.1
  unfold v_11_count
  exact br_i (fun _ => rd_i fun _ => hq _) fun _ => br_i (fun _ => rd_i fun _ => hq _) fun _ => br_i (fun _ => j_rules b1 fun r => hq r) fun _ => br_i (fun _ => j_rules b1 fun r => hq r) fun _ => br_i (fun _ => rd_i fun _ => hq _) fun _ => hq _
theorem j_size {u : iST} {Q : Int → iST → Prop} (hq : ∀ r, Q r u) : v_11_size Q u := by
  unfold v_11_size
  exact rd_i fun _ => hq _
theorem j_letter {u : iST} {n : Int} {Q : Int → iST → Prop} (h : HJ u) (hq : ∀ r, Q r u) : v_11_letter n Q u := by
  have s := h.1.2.2.1 0 (by decide) (by decide)
  unfold v_11_letter
  exact br_i (fun _ => hq _) fun h0 => rd_i fun _ => br_i (fun _ => hq _) fun h1 => bd_i (by omega) (by omega) (rh_i fun _ => hq _)
theorem j_taken {u : iST} {n : Int} {Q : Int → iST → Prop} (h : HJ u) (hq : ∀ r, Q r u) : v_11_taken n Q u := by
  have s := h.1.2.1.1
  unfold v_11_taken
  exact br_i (fun _ => hq _) fun h0 => rd_i fun _ => br_i (fun _ => hq _) fun h1 => bd_i (by omega) (by omega) (rd_i fun _ => hq _)
theorem j_placeOf0 {u : iST} {n : Nat} {Q : Int → iST → Prop} (h : BL u) (hn : (n : Int) < u.1 2) (hq : Q (if u.2.1 14 n = 1 then cntK u n else n - cntK u n) u) : v_0_placeOf n Q u := by
  unfold v_0_placeOf v_0_placeOf_4
  refine lf3 (B := fun R x1 x2 x3 u => v_0_placeOf_4b R Q x1 x2 x3 u) (fun x1 x2 x3 v => (n : Int) = x1 ∧ u = v ∧ ∃ i : Nat, x3 = i ∧ i ≤ n ∧ x2 = if u.2.1 14 n = 1 then cntK u i else i - cntK u i) (fun _ _ x3 _ => (n - x3).toNat) ?_ ⟨rfl, rfl, 0, rfl, by omega, by split <;> rfl⟩
  intro x1 x2 x3 v hI R ih
  obtain ⟨rfl, rfl, i, rfl, hi, rfl⟩ := hI
  have ci := cntK_r u i
  have u2 := h.1
  have rng : 0 ≤ (if u.2.1 14 n = 1 then cntK u i else i - cntK u i) ∧ (if u.2.1 14 n = 1 then cntK u i else i - cntK u i) ≤ i := by split <;> omega
  unfold v_0_placeOf_4b v_0_placeOf_33 v_0_placeOf_48
  refine br_i (fun hle => ?_) fun hlt => rd_i fun _ => br_i (fun _ => by exfalso; omega) fun _ => bd_i (by omega) (by omega) (rd_i fun _ => ?_)
  · have : i = n := by omega
    rw [this]; exact hq
  · have nx : ∀ y : Int, y = (if u.2.1 14 n = 1 then cntK u (i + 1) else ((i + 1 : Nat) : Int) - cntK u (i + 1)) → ov ((i : Int) + 1) (R n y ((i : Int) + 1) u) := fun y hy => ov_i (by omega) (by omega) (ih _ _ _ _ ⟨rfl, rfl, i + 1, by omega, by omega, hy⟩ (by omega))
    have e1 := cntK_s u i
    refine br_i (fun hk => bd_i (by omega) (by omega) (rd_i fun _ => br_i (fun hn1 => br_i (fun z => by exact absurd rfl z) fun _ => ov_i (by omega) (by omega) (nx _ ?_)) fun hn1 => br_i (fun _ => ov_i (by omega) (by omega) (nx _ ?_)) fun z => absurd (Classical.not_not.mp z) (by decide))) fun hk => bd_i (by omega) (by omega) (rd_i fun _ => br_i (fun hn1 => br_i (fun _ => ov_i (by omega) (by omega) (nx _ ?_)) fun z => absurd (Classical.not_not.mp z) (by decide)) fun hn1 => br_i (fun z => by exact absurd rfl z) fun _ => ov_i (by omega) (by omega) (nx _ ?_))
    · rw [if_neg hn1, if_neg hn1, e1, if_neg hk]; omega
    · have hn1 := Classical.not_not.mp hn1
      rw [if_pos hn1, if_pos hn1, e1, if_neg hk]
    · have hk := Classical.not_not.mp hk
      rw [if_neg hn1, if_neg hn1, e1, if_pos hk]; omega
    · have hk := Classical.not_not.mp hk
      have hn1 := Classical.not_not.mp hn1
      rw [if_pos hn1, if_pos hn1, e1, if_pos hk]
theorem j_tell {u : iST} {n : Int} {Q : Int → iST → Prop} (h : HJ u) (hq : ∀ r v, HJ v → v.1 43 = u.1 43 → v.1 42 = u.1 42 → Q r v) : v_11_tell n Q u := by
  have hT := h.1.1
  have hB := h.1.2.1
  have u2 := hB.1
  have h44 := hT.1.1
  have k204 : ∀ v x, RM u v → v_11_tell_204 Q x v := by
    intro v x hv
    have vS : SL v := h.1.2.2.1.keep (hv.a 54 (by decide))
    unfold v_11_tell_204
    refine j_clear9 hv.1 vS fun w hw wS => j_write hw.1 wS (by decide) (by decide) fun z hz zS => rd_i fun _ => ?_
    have g : RG mS [27, 28, 29, 30, 54, 55, 56] u z := ((hv.w (by decide) (by decide)).tr (hw.w (by decide) (by decide))).tr (hz.w (by decide) (by decide))
    exact hq _ z (h.rg g (by decide) (by decide) zS (by decide) (by decide) (by decide)) (g.s 43 (by decide)) (g.s 42 (by decide))
  unfold v_11_tell
  refine br_i (fun _ => hq _ u h rfl rfl) fun h0 => rd_i fun _ => br_i (fun hlt => ?_) fun _ => hq _ u h rfl rfl
  obtain ⟨m, rfl⟩ : ∃ m : Nat, n = m := ⟨n.toNat, by omega⟩
  refine j_placeOf0 hB hlt (bd_i (by omega) (by omega) (rd_i fun _ => ?_))
  have eo := hB.2.2.2.2.2.2 m hlt
  have kp := hB.2.2.2.1
  have c1 := cntK_r u m
  have cl := cntK_le u (n := m + 1) (m := (u.1 2).toNat) (by omega)
  rw [cntK_s] at cl
  have e0 := hB.2.2.2.2.1
  have e1 := hB.2.2.2.2.2.1
  refine br_i (fun hk => ?_) fun hk => ?_
  · rw [if_neg hk] at cl ⊢
    have t0 : 0 ≤ (m : Int) - cntK u m := by omega
    have t1 : (m : Int) - cntK u m < u.1 1 := by omega
    have ok := hB.thm t0 t1
    generalize (m : Int) - cntK u m = t at *
    refine bd_i t0 (by omega) (rd_i fun _ => j_pair hT (by have := ok.2.1; omega) (by omega) fun a v hv _ a1 _ => ?_)
    have v5 : v.2.1 5 = u.2.1 5 := hv.a 5 (by decide)
    have v29 := hv.2.1.1
    refine bd_i t0 (by omega) (rd_i fun _ => ?_)
    rw [v5]
    exact j_pair hv.1 (by have := ok.1; omega) a1 fun b w hw _ b1 _ => j_pair hw.1 (by have := hw.1.1.1; omega) b1 fun c z hz _ c1 _ => k204 z c ((hv.tr hw).tr hz)
  · have hk := Classical.not_not.mp hk
    rw [if_pos hk] at cl ⊢
    have t0 : 0 ≤ cntK u m := c1.1
    have t1 : cntK u m < u.1 0 := by omega
    have ok := hB.fun t0 t1
    generalize cntK u m = t at *
    have k73 : ∀ v y, RM u v → y < v.1 29 → v_11_tell_73 Q t y v := by
      intro v y hv hy
      have v29 := hv.2.1.1
      have v1 : v.2.1 1 = u.2.1 1 := hv.a 1 (by decide)
      have v3 : v.2.1 3 = u.2.1 3 := hv.a 3 (by decide)
      unfold v_11_tell_73
      refine bd_i t0 (by omega) (rd_i fun _ => bd_i t0 (by omega) (rd_i fun _ => ?_))
      rw [v1, v3]
      refine j_pair hv.1 (by have := ok.2.2.2.1.2; omega) hy fun b w hw _ b1 _ => ?_
      have w29 := hw.2.1.1
      refine j_pair hw.1 (by have := ok.2.1; omega) b1 fun c z hz _ c1 _ => bd_i t0 (by omega) (rd_i fun _ => ?_)
      have z29 := hz.2.1.1
      have z0 : z.2.1 0 = u.2.1 0 := by rw [hz.a 0 (by decide), hw.a 0 (by decide), hv.a 0 (by decide)]
      rw [z0]
      exact j_pair hz.1 (by have := ok.1.2; omega) c1 fun d s hs _ d1 _ => j_pair hs.1 (by have := hs.1.1.1; omega) d1 fun e p hp _ _ _ => k204 p e ((((hv.tr hw).tr hz).tr hs).tr hp)
    refine bd_i t0 (by omega) (rd_i fun _ => br_i (fun _ => j_pair hT (by have := ok.2.2.2.2.2; omega) (by omega) fun a v hv _ a1 _ => k73 v a hv a1) fun _ => k73 u 0 (RG.rf hT) (by omega))
theorem j_recheck {u : iST} {Q : Int → iST → Prop} (h : HJ u) (hq : ∀ r v, bz r → HJ v → v.1 43 = u.1 43 → v.1 42 = u.1 42 → Q r v) : v_11_recheck Q u := by
  unfold v_11_recheck
  refine rz_i fun _ => br_i (fun h50 => j_begin h.1.1 fun a aT a2 ao a30 a31 a32 => ?_) fun _ => zt_0 (hq 0 u (Or.inl rfl) h rfl rfl)
  obtain ⟨pN, pC, p25⟩ := h.2 h50
  have hW := h.1.WK
  have as : ∀ k, k ≠ 30 → k ≠ 31 → k ≠ 32 → a.1 k = u.1 k := fun k h1 h2 h3 => ao k (by simp only [List.mem_cons, List.not_mem_nil, or_false, not_or]; exact ⟨h1, h2, h3⟩)
  have a29 : a.1 29 = u.1 29 := as 29 (by decide) (by decide) (by decide)
  have C : Ce u a := ⟨by omega, fun i _ _ => by rw [a2]⟩
  have hB := h.1.2.1
  have aB : BL a := hB.same (fun k hk => as k (fun e => by rw [e] at hk; revert hk; decide) (fun e => by rw [e] at hk; revert hk; decide) (fun e => by rw [e] at hk; revert hk; decide)) (fun k _ => by rw [a2]) (by rw [a29]; exact hB.2.2.2.1) (fun f f0 f1 => (hB.fun f0 f1).2.2.2.2.1.ext h.1.1 C)
  have a0 : HJ0 a := by
    obtain ⟨b1, b2, b3, b4, b5, b6, b7, b8, b9, c1, c2, c3, c4⟩ := h.1
    exact ⟨aT, aB, b3.keep (by rw [a2]), by rw [as 39 (by decide) (by decide) (by decide)]; exact b4, by rw [as 37 (by decide) (by decide) (by decide), as 38 (by decide) (by decide) (by decide)]; exact b5, b6.keep (by rw [a2]) (by rw [a2]) C.1, by rw [as 33 (by decide) (by decide) (by decide)]; exact b7, by rw [as 13 (by decide) (by decide) (by decide)]; exact b8, by rw [as 14 (by decide) (by decide) (by decide)]; exact b9, by rw [as 15 (by decide) (by decide) (by decide)]; exact c1, by rw [as 43 (by decide) (by decide) (by decide)]; exact c2, by rw [as 42 (by decide) (by decide) (by decide)]; exact c3, by rw [as 27 (by decide) (by decide) (by decide)]; exact c4⟩
  have aN : NF a := pN.keep (as 26 (by decide) (by decide) (by decide)) C.1 (by rw [a2])
  have aC : CV (fun c => c < a.1 13 ∨ False) a := by
    rw [as 13 (by decide) (by decide) (by decide)]
    exact (pC.keep (by rw [a2]) (by rw [a2]) C.1).less (fun c hc => hc.resolve_right id)
  refine j_doNotesHold a0.WK aN (by rw [as 25 (by decide) (by decide) (by decide), as 1 (by decide) (by decide) (by decide)]; exact p25) (by omega) fun b v hb hv vW v31 vN v27 => ?_
  have v13 : v.1 13 = a.1 13 := hv.s 13 (by decide)
  refine j_prove (a := 1) (E := fun _ => False) (Or.inr rfl) vW (fun _ => vN) (by rw [hv.s 25 (by decide), hv.s 1 (by decide), as 25 (by decide) (by decide) (by decide), as 1 (by decide) (by decide) (by decide)]; exact p25) v31 (fun z => by omega) (by rw [v13]; exact a0.2.2.2.2.2.2.2.1) (by rw [hv.s 14 (by decide)]; exact a0.2.2.2.2.2.2.2.2.1) (by rw [v13]; exact aC.rg hv (by decide) (by decide)) fun w hw => ?_
  obtain ⟨w1, w2, w3, w4, w5, w6, w7, w8⟩ := hw
  have wN : NF w := w3 (Or.inr (by decide))
  have g : RG (27 :: peS) pvR a w := (hv.w (by decide) (by decide)).tr (w1.w (by decide) (by decide))
  have w13 : w.1 13 = a.1 13 := g.s 13 (by decide)
  have wJ : HJ w := by
    obtain ⟨b1, b2, b3, b4, b5, b6, b7, b8, b9, c1, c2, c3, c4⟩ := a0
    refine ⟨⟨g.1, b2.rg b1 g (by decide) (by decide), w2.2.2.2.2.2.1, w2.2.2.2.2.2.2, by rw [g.s 37 (by decide), g.s 38 (by decide)]; exact b5, w7.len, by rw [g.s 33 (by decide)]; exact b7, by rw [w13]; exact b8, w5, w6, by rw [g.s 43 (by decide)]; exact c2, by rw [g.s 42 (by decide)]; exact c3, by rw [w1.s 27 (by decide)]; exact v27⟩, fun _ => ⟨wN, w7.less (fun c hc => Or.inl hc), by rw [g.s 25 (by decide), g.s 1 (by decide), as 25 (by decide) (by decide) (by decide), as 1 (by decide) (by decide) (by decide)]; exact p25⟩⟩
  have e43 : w.1 43 = u.1 43 := by rw [g.s 43 (by decide), as 43 (by decide) (by decide) (by decide)]
  have e42 : w.1 42 = u.1 42 := by rw [g.s 42 (by decide), as 42 (by decide) (by decide) (by decide)]
  have no : zt 0 (Q 0 w) := zt_0 (hq 0 w (Or.inl rfl) wJ e43 e42)
  exact br_i (fun _ => no) fun _ => j_isAllProved fun b2 _ => br_i (fun _ => no) fun _ => zt_1 (hq 1 w (Or.inr rfl) wJ e43 e42)
