/-! the other calls -/
theorem wand_255 (a : Int) : 0 ≤ wand a 255 ∧ wand a 255 < 256 := by
  obtain ⟨j, hj, e⟩ := pk_andE (jI a) (m := jI 255) 8 (by decide)
  unfold wand
  rw [e, nI_toInt (by omega)]
  omega
theorem HB.fx2 {u v : iST} {f : Nat → Bool} (h : HB u) (hT : TI v) (hE : ExtT u v) (a6 : Fx f u v) (hf : ∀ k, ((35 ≤ k ∧ k ≤ 49) ∨ (54 ≤ k ∧ k ≤ 57)) → f k = false) (v59 : 1 ≤ v.1 59 ∧ v.1 59 ≤ 1000) (v13 : ∀ i, 0 ≤ v.2.1 13 i ∧ v.2.1 13 i ≤ 255) (v12 : ∀ i, 0 ≤ v.2.1 12 i ∧ v.2.1 12 i ≤ 255) : HB v := by
  obtain ⟨h1, h2, h3, h4, h5, h6, h7, h8, C, h9⟩ := h
  have e54 := fx_s a6 54 (hf 54 (by omega))
  have e55 := fx_a a6 55 (hf 55 (by omega))
  have e56 := fx_a a6 56 (hf 56 (by omega))
  have dA : ∀ d, DAg u v d := fun d => DAg.fx a6 (hf 36 (by omega)) (hf 37 (by omega)) (hf 38 (by omega)) (hf 39 (by omega)) (hf 40 (by omega)) (hf 41 (by omega)) d
  have tA : ∀ d, TAg u v d := fun d => TAg.fx a6 (hf 43 (by omega)) (hf 44 (by omega)) (hf 46 (by omega)) (hf 47 (by omega)) (hf 48 (by omega)) (hf 49 (by omega)) d
  have e35 := fx_s a6 35 (hf 35 (by omega))
  have e42 := fx_s a6 42 (hf 42 (by omega))
  refine ⟨hT, h2.ext h1 hE e35 e42 (by rw [fx_s a6 57 (hf 57 (by omega))]; exact h2.2.2.1) (fun d _ _ => dA d) (fun k _ _ => tA k), v59, v13, v12, by omega, by rw [e35, e54, e55]; exact h7, by rw [e42, e54, e55]; exact h8, C, fun j hj => ?_, fun i j hij hj => h9.2 i j hij (by omega)⟩
  obtain ⟨b1, b2, b3, b4⟩ := h9.1 j (by omega)
  rw [e55, e56]
  exact ⟨b1.tr hE (fun d _ _ => dA d) (fun k _ _ => tA k), b2, b3, b4⟩
theorem HI.mono {u : iST} {K L : Int} (h : HI u K) (hL : K ≤ L) : HI u L := by
  obtain ⟨h1, h2, h3, h4, h5, h6, h7, h8, h9, h10, h11, h12, h13, h14, h15, h16⟩ := h
  exact ⟨h1, h2, h3, h4, h5, h6, h7, h8, h9, h10, h11, h12, h13, by omega, by omega, by omega⟩
def fIn (k : Nat) : Bool := decide (12 ≤ k) && decide (k ≤ 14)
theorem fIn_t : ∀ k, k ≤ 11 → fIn k = false := fun k hk => by simp [fIn]; omega
/-- the waiting letters, the text and its size alone were changed -/
theorem HI.text {u v : iST} {K L : Int} (h : HI u K) (hF : Fx fIn u v) (hL : v.2.2 = u.2.2) (h14 : 0 ≤ v.1 14 ∧ v.1 14 ≤ 3000) (v13 : ∀ i, 0 ≤ v.2.1 13 i ∧ v.2.1 13 i ≤ 255) (v12 : ∀ i, 0 ≤ v.2.1 12 i ∧ v.2.1 12 i ≤ 255) (hK : K + 5 * (v.1 14 - u.1 14) ≤ L) : HI v L := by
  have hB := h.hb
  obtain ⟨h1, h2, h3, h4, h5, h6, h7, h8, h9, h10, h11, h12, h13, h14', h15, h16⟩ := h
  have t : ∀ k, k ≤ 11 → v.1 k = u.1 k ∧ v.2.1 k = u.2.1 k := fun k hk => hF k (fIn_t k hk)
  have vB := hB.fx2 (TI_eq h1 t hL) (ExtT.same t hL (SameF.of hF rfl rfl rfl rfl rfl)) hF (fun k hk => by simp [fIn]; omega) (by rw [fx_s hF 59 rfl]; exact h6) v13 v12
  have e8 := (t 8 (by decide)).1
  have e6 := (t 6 (by decide)).1
  have e11 := (t 11 (by decide)).1
  exact vB.hi (by rw [fx_s hF 69 rfl]; exact h3) (by rw [fx_s hF 71 rfl]; exact h4) (OI_eq h5 (fx_s hF 16 rfl) (fx_s hF 22 rfl)) h14 (by omega) (by omega) (by omega)
theorem g_feed {u : iST} {a b c d e K : Int} {Q : iST → Prop} (h : HI u K) (hq : ∀ w, HI w K → w.1 = u.1 → Q w) : w_feed a b c d e Q u := by
  unfold w_feed w_feed_3
  refine lf6 (B := fun R x1 x2 x3 x4 x5 x6 u => w_feed_3b R Q x1 x2 x3 x4 x5 x6 u) (fun _ _ _ _ _ x6 v => 0 ≤ x6 ∧ v.1 = u.1 ∧ v.2.2 = u.2.2 ∧ (∀ g, g ≠ 12 → v.2.1 g = u.2.1 g) ∧ ∀ i, 0 ≤ v.2.1 12 i ∧ v.2.1 12 i ≤ 255) (fun _ _ _ _ _ x6 _ => (4 - x6).toNat) ?_ ⟨Int.le_refl _, rfl, rfl, fun _ _ => rfl, h.2.2.2.2.2.2.2.2.1⟩
  intro x1 x2 x3 x4 x5 x6 v hI R ih
  obtain ⟨p1, p2, p3, p4, p5⟩ := hI
  unfold w_feed_3b
  refine br_i (fun _ => hq v (h.text (v := v) (fun k hk => ?_) p3 (by rw [p2]; exact h.2.2.2.2.2.2.1) (by rw [p4 13 (by decide)]; exact h.2.2.2.2.2.2.2.1) p5 (by rw [p2]; omega)) p2) fun hc => ?_
  · have : k ≠ 12 := fun e => by rw [e] at hk; cases hk
    exact ⟨by rw [p2], p4 k this⟩
  · have w12 : ∀ (z : iST) (i x : Int), (∀ i, 0 ≤ z.2.1 12 i ∧ z.2.1 12 i ≤ 255) → ∀ j, 0 ≤ (iA z 12 i (wand x 255)).2.1 12 j ∧ (iA z 12 i (wand x 255)).2.1 12 j ≤ 255 := fun z i x hz j => by
      rw [iA_same]
      have := wand_255 x
      split
      · omega
      · exact hz j
    refine ov_i (by omega) (by omega) (ov_i (by omega) (by omega) (rd_i fun _ => rd_i fun _ => bd_i (by omega) (by omega) (sw_i ?_)))
    refine ov_i (by omega) (by omega) (ov_i (by omega) (by omega) (ov_i (by omega) (by omega) (rd_i fun _ => rd_i fun _ => bd_i (by omega) (by omega) (sw_i ?_))))
    refine ov_i (by omega) (by omega) (ov_i (by omega) (by omega) (ov_i (by omega) (by omega) (rd_i fun _ => rd_i fun _ => bd_i (by omega) (by omega) (sw_i ?_))))
    refine ov_i (by omega) (by omega) (ov_i (by omega) (by omega) (ov_i (by omega) (by omega) (rd_i fun _ => rd_i fun _ => bd_i (by omega) (by omega) (sw_i ?_))))
    refine ov_i (by omega) (by omega) (ov_i (by omega) (by omega) (ov_i (by omega) (by omega) (rd_i fun _ => rd_i fun _ => bd_i (by omega) (by omega) (sw_i (ov_i (by omega) (by omega) ?_)))))
    exact ih _ _ _ _ _ _ _ ⟨by omega, p2, p3, fun g hg => (iA_other hg).trans ((iA_other hg).trans ((iA_other hg).trans ((iA_other hg).trans ((iA_other hg).trans (p4 g hg))))), w12 _ _ _ (w12 _ _ _ (w12 _ _ _ (w12 _ _ _ (w12 _ _ _ p5))))⟩ (by omega)
theorem g_end {u : iST} {n K : Int} {Q : Int → iST → Prop} (h : HI u K) (hqN : (n < 0 ∨ 20 < n ∨ 3000 < u.1 14 + n) → Q (-1) u) (hq : ∀ w, 0 ≤ n → n ≤ 20 → u.1 14 + n ≤ 3000 → HI w (K + 100) → w.1 14 = u.1 14 + n → w.1 59 = u.1 59 → Q (w.1 14) w) : w_end n Q u := by
  have t14 := h.2.2.2.2.2.2.1
  have t13 := h.2.2.2.2.2.2.2.1
  have t12 := h.2.2.2.2.2.2.2.2.1
  unfold w_end
  refine br_i (fun hc => hqN (Or.inl hc)) fun n0 => br_i (fun hc => hqN (Or.inr (Or.inl hc))) fun n20 => rd_i fun _ => ov_i (by omega) (by omega) (br_i (fun hle => ?_) fun hgt => hqN (Or.inr (Or.inr (by omega))))
  unfold w_end_26
  refine lf2 (B := fun R x1 x2 u => w_end_26b R Q x1 x2 u) (fun x1 x2 v => n = x1 ∧ 0 ≤ x2 ∧ x2 ≤ n ∧ v.1 = u.1 ∧ v.2.2 = u.2.2 ∧ (∀ g, g ≠ 13 → v.2.1 g = u.2.1 g) ∧ ∀ i, 0 ≤ v.2.1 13 i ∧ v.2.1 13 i ≤ 255) (fun _ x2 _ => (n - x2).toNat) ?_ ⟨rfl, Int.le_refl _, by omega, rfl, rfl, fun _ _ => rfl, t13⟩
  intro x1 x2 v hI R ih
  obtain ⟨e1, p1, p2, p3, p4, p5, p6⟩ := hI
  subst e1
  have e14 : v.1 14 = u.1 14 := by rw [p3]
  unfold w_end_26b
  refine br_i (fun hge => rd_i fun _ => ov_i (by omega) (by omega) (sw_i ?_)) fun hlt => rd_i fun _ => ov_i (by omega) (by omega) (bd_i p1 (by omega) (rd_i fun _ => bd_i (by omega) (by omega) (sw_i (ov_i (by omega) (by omega) (ih _ _ _ ⟨rfl, by omega, by omega, p3, p4, fun g hg => (iA_other hg).trans (p5 g hg), fun i => ?_⟩ (by omega))))))
  · rw [e14]
    unfold w_end_66
    refine lf1 (B := fun R x2 u => w_end_66b R Q x2 u) (fun y2 z => 0 ≤ y2 ∧ z.1 = (iI v 14 (u.1 14 + n)).1 ∧ z.2.2 = u.2.2 ∧ (∀ g, g ≠ 12 → g ≠ 13 → z.2.1 g = u.2.1 g) ∧ (∀ i, 0 ≤ z.2.1 13 i ∧ z.2.1 13 i ≤ 255) ∧ ∀ i, 0 ≤ z.2.1 12 i ∧ z.2.1 12 i ≤ 255) (fun y2 _ => (20 - y2).toNat) ?_ ⟨Int.le_refl _, rfl, p4, fun g g1 g2 => p5 g g2, p6, fun i => by show 0 ≤ v.2.1 12 i ∧ v.2.1 12 i ≤ 255; rw [p5 12 (by decide)]; exact t12 i⟩
    intro y2 z hI2 R2 ih2
    obtain ⟨q1, q2, q3, q4, q5, q6⟩ := hI2
    have z14 : z.1 14 = u.1 14 + n := by rw [q2]; rfl
    have zk : ∀ k, k ≠ 14 → z.1 k = u.1 k := fun k hk => by rw [q2]; exact (if_neg hk).trans (by rw [p3])
    unfold w_end_66b
    refine br_i (fun _ => rd_i fun _ => hq z (by omega) (by omega) hle (h.text (v := z) (fun k hk => ?_) q3 ⟨by omega, by omega⟩ q5 q6 (by omega)) z14 (zk 59 (by decide))) fun hc => bd_i q1 (by omega) (sw_i (ov_i (by omega) (by omega) (ih2 _ _ ⟨by omega, q2, q3, fun g g1 g2 => (iA_other g1).trans (q4 g g1 g2), q5, fun i => ?_⟩ (by omega))))
    · have : k ≠ 12 ∧ k ≠ 13 ∧ k ≠ 14 := by simp [fIn] at hk; omega
      exact ⟨zk k this.2.2, q4 k this.1 this.2.1⟩
    · rw [iA_same]
      split
      · omega
      · exact q6 i
  · rw [iA_same]
    split
    · rw [p5 12 (by decide)]; exact t12 x2
    · exact p6 i
theorem g_fuel {u : iST} {n K : Int} {Q : Int → iST → Prop} (h : HI u K) (hqN : (n < 1 ∨ 1000 < n) → Q (-1) u) (hq : ∀ w, 1 ≤ n → n ≤ 1000 → HI w K → w.1 59 = n → w.1 14 = u.1 14 → Q (u.1 59) w) : w_fuel n Q u := by
  unfold w_fuel
  refine br_i (fun hc => hqN (Or.inl hc)) fun h1 => br_i (fun h2 => rd_i fun _ => sw_i (hq _ (by omega) h2 ?_ rfl rfl)) fun hc => hqN (Or.inr (by omega))
  have hB := h.hb
  obtain ⟨g1, g2, g3, g4, g5, g6, g7, g8, g9, g10, g11, g12, g13, g14, g15, g16⟩ := h
  have hF : Fx (fun k => decide (k = 59)) u (iI u 59 n) := Fx_I (k := 59) rfl
  have t : ∀ k, k ≤ 11 → (iI u 59 n).1 k = u.1 k ∧ (iI u 59 n).2.1 k = u.2.1 k := fun k hk => ⟨if_neg (by omega), rfl⟩
  have vB := hB.fx2 (TI_eq g1 t rfl) (ExtT.same t rfl ⟨rfl, rfl, rfl, rfl, rfl⟩) hF (fun k hk => by simp; omega) ⟨show 1 ≤ n by omega, h2⟩ g8 g9
  exact vB.hi g3 g4 g5 g7 g14 g15 g16
theorem g_fault {u : iST} {a : Int} {Q : Int → iST → Prop} (hq : ∀ b, Q b u) : w_fault a Q u := by
  unfold w_fault
  exact br_i (fun _ => br_i (fun _ => br_i (fun _ => hq _) fun _ => rd_i fun _ => hq _) fun _ => rd_i fun _ => hq _) fun _ => rd_i fun _ => hq _
theorem g_letter {u : iST} {a : Int} {Q : Int → iST → Prop} (hO : OI u) (hq : ∀ b, Q b u) : w_letter a Q u := by
  have := hO.2.1
  unfold w_letter
  exact br_i (fun _ => hq _) fun _ => rd_i fun _ => br_i (fun _ => hq _) fun _ => bd_i (by omega) (by omega) (rd_i fun _ => hq _)
theorem HI.r54 {u : iST} {K : Int} (h : HI u K) : 0 ≤ u.1 54 ∧ u.1 54 ≤ 100 := by
  obtain ⟨g1, g2, g3, g4, g5, g6, g7, g8, g9, g10, g11, g12, g13, g14, g15, g16⟩ := h
  have := g2.1
  have := g2.2.1
  omega
theorem g_taken {u : iST} {a K : Int} {Q : Int → iST → Prop} (h : HI u K) (hq : ∀ b, Q b u) : w_taken a Q u := by
  have := h.r54
  unfold w_taken
  exact br_i (fun _ => hq _) fun _ => rd_i fun _ => br_i (fun _ => hq _) fun _ => bd_i (by omega) (by omega) (rd_i fun _ => hq _)
theorem g_recheck {u : iST} {Q : Int → iST → Prop} (hq : ∀ b, bz b → Q b u) : w_recheck Q u := by
  unfold w_recheck
  exact rz_i fun hb => (show zt _ _ from ⟨hb, hq _ hb⟩)
theorem g_count {u : iST} {a : Int} {Q : Int → iST → Prop} (hC : Core u) (hq : ∀ b, Q b u) : w_count a Q u := by
  have c2 := hC.2.1
  unfold w_count w_count_7
  refine lf4 (B := fun R x1 x2 x3 x4 u => w_count_7b R Q x1 x2 x3 x4 u) (fun _ x2 x3 x4 v => u = v ∧ 0 ≤ x2 ∧ x2 ≤ x4 ∧ 0 ≤ x3 ∧ x3 ≤ x4) (fun _ _ _ x4 _ => (60 - x4).toNat) ?_ ⟨rfl, Int.le_refl _, Int.le_refl _, Int.le_refl _, Int.le_refl _⟩
  intro x1 x2 x3 x4 v hI R ih
  obtain ⟨e1, p1, p2, p3, p4⟩ := hI
  subst e1
  unfold w_count_7b
  refine rd_i fun _ => br_i (fun _ => br_i (fun _ => br_i (fun _ => br_i (fun _ => br_i (fun _ => br_i (fun _ => hq _) fun _ => rd_i fun _ => hq _) fun _ => hq _) fun _ => hq _) fun _ => rd_i fun _ => hq _) fun _ => rd_i fun _ => hq _) fun hlt => bd_i (by omega) (by omega) (rd_i fun _ => ?_)
  have k33 : ∀ y1, (y1 = 0 ∨ y1 = 1) → w_count_33 R Q x1 x3 x4 x2 y1 u := by
    intro y1 hy
    have k61 : w_count_61 R Q x1 (x2 + y1) x4 x3 u := by
      unfold w_count_61
      exact ov_i (by omega) (by omega) (ov_i (by omega) (by omega) (ih _ _ _ _ _ ⟨rfl, by omega, by omega, by omega, by omega⟩ (by omega)))
    unfold w_count_33
    exact ov_i (by omega) (by omega) (bd_i (by omega) (by omega) (rd_i fun _ => br_i (fun _ => k61) fun _ => bd_i (by omega) (by omega) (rz_i fun _ => br_i (fun _ => k61) fun _ => ov_i (by omega) (by omega) (ov_i (by omega) (by omega) (ih _ _ _ _ _ ⟨rfl, by omega, by omega, by omega, by omega⟩ (by omega))))))
  exact br_i (fun _ => k33 0 (Or.inl rfl)) fun _ => k33 1 (Or.inr rfl)
