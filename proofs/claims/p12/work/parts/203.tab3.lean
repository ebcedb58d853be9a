/-! pair, natural, symbol, forget -/
theorem slotv_congr {u w : iST} {k : Int} (h0 : w.2.1 0 k = u.2.1 0 k) (h1 : w.2.1 1 k = u.2.1 1 k) (hn : u.2.1 0 k = -1 → w.2.2 (u.2.1 1 k) = u.2.2 (u.2.1 1 k)) (hs : u.2.1 0 k = -2 → w.2.1 10 (u.2.1 1 k) = u.2.1 10 (u.2.1 1 k) ∧ ∀ i, 0 ≤ i → i < u.2.1 10 (u.2.1 1 k) → w.2.1 9 (12 * u.2.1 1 k + i) = u.2.1 9 (12 * u.2.1 1 k + i)) : slotv w k = slotv u k := by
  unfold slotv
  rw [h0, h1]
  split
  · next h => rw [hn h]
  · split
    · next h =>
      obtain ⟨q1, q2⟩ := hs h
      rw [q1]
      unfold spellF
      rw [hashF_congr (g := fun i => u.2.1 9 (12 * u.2.1 1 k + i)) _ (fun i i0 i1 => q2 i i0 (by omega))]
    · rfl
theorem kind_congr {u w : iST} {k : Int} (hk : KindOk u k) (k0 : 0 ≤ k) (h0 : ∀ j, 0 ≤ j → j ≤ k → w.2.1 0 j = u.2.1 0 j) (h1 : w.2.1 1 k = u.2.1 1 k) (hn : u.2.1 0 k = -1 → w.2.2 (u.2.1 1 k) = u.2.2 (u.2.1 1 k)) (hs : u.2.1 0 k = -2 → w.2.1 10 (u.2.1 1 k) = u.2.1 10 (u.2.1 1 k)) : KindOk w k := by
  unfold KindOk at hk ⊢
  rw [h0 k k0 (Int.le_refl _), h1, cnt_congr (f := w.2.1 0) (g := u.2.1 0) (c := -1) k.toNat (fun i i0 i1 => h0 i i0 (by omega)), cnt_congr (f := w.2.1 0) (g := u.2.1 0) (c := -2) k.toNat (fun i i0 i1 => h0 i i0 (by omega))]
  rcases hk with hk | hk | hk
  · rw [hn hk.1]; exact Or.inl hk
  · rw [hs hk.1]; exact Or.inr (Or.inl hk)
  · exact Or.inr (Or.inr hk)
theorem cnt_last {f : Int → Int} {c n : Int} (h : 0 ≤ n) : cnt f c (n + 1).toNat = cnt f c n.toNat + (if f n = c then 1 else 0) := by
  rw [show (n + 1).toNat = n.toNat + 1 from by omega]
  show cnt f c n.toNat + (if f (n.toNat : Int) = c then 1 else 0) = _
  rw [Int.toNat_of_nonneg h]
theorem hgt_r {u : iST} (hT : TI u) {l r : Int} (hl : 0 ≤ l → l < u.1 8 ∧ 0 ≤ r ∧ r < u.1 8) : 0 ≤ hgt u l r ∧ hgt u l r ≤ u.1 8 := by
  have h8 := hT.1
  unfold hgt
  split
  · next h =>
    obtain ⟨q1, q2, q3⟩ := hl h
    have a := hT.node h q1
    have b := hT.node q2 q3
    have := a.2.1; have := a.2.2.1; have := b.2.1; have := b.2.2.1
    split <;> omega
  · omega
theorem TI_pair {u : iST} {l r : Int} (hT : TI u) (hn : u.1 8 < 452000) (l0 : 0 ≤ l) (l1 : l < u.1 8) (r0 : 0 ≤ r) (r1 : r < u.1 8) (hno : ∀ j, 0 ≤ j → j < u.1 8 → u.2.1 0 j = l → u.2.1 1 j ≠ r) : TI (uAdd u l r (slotF l r) (hgt u l r)) := by
  have h8 := hT.1
  have hr := slotF_r l r
  have hg := hgt_r hT (l := l) (r := r) (fun _ => ⟨l1, r0, r1⟩)
  have b0 : ∀ k, k < u.1 8 → (uAdd u l r (slotF l r) (hgt u l r)).2.1 0 k = u.2.1 0 k := fun k hk => by rw [uAdd_0, if_neg (by omega)]
  have b1 : ∀ k, k < u.1 8 → (uAdd u l r (slotF l r) (hgt u l r)).2.1 1 k = u.2.1 1 k := fun k hk => by rw [uAdd_1, if_neg (by omega)]
  have g9 : (uAdd u l r (slotF l r) (hgt u l r)).2.1 9 = u.2.1 9 := uAdd_g (by decide)
  have g10 : (uAdd u l r (slotF l r) (hgt u l r)).2.1 10 = u.2.1 10 := uAdd_g (by decide)
  have n0 : (uAdd u l r (slotF l r) (hgt u l r)).2.1 0 (u.1 8) = l := by rw [uAdd_0, if_pos rfl]
  have n1 : (uAdd u l r (slotF l r) (hgt u l r)).2.1 1 (u.1 8) = r := by rw [uAdd_1, if_pos rfl]
  refine TI_new (h := slotF l r) hT hn rfl hT.2.2.1 hT.2.2.2.1 ?_ ?_ (fun k _ hk => b0 k hk) (fun k _ hk => b1 k hk) (fun k _ hk => by rw [uAdd_2, if_neg (by omega)]) (fun k _ hk => by rw [uAdd_4, if_neg (by omega)]) ?_ ?_ ?_ (by rw [uAdd_4, if_pos rfl]; exact hg) hr.1 hr.2 ?_ (by rw [uAdd_2, if_pos rfl]) (fun j => uAdd_7 j) ?_
  · rw [cnt_last (by omega), n0, if_neg (by omega), cnt_congr (g := u.2.1 0) _ (fun i i0 i1 => b0 i (by omega))]
    show u.1 6 = _
    have := hT.2.2.2.2.1
    omega
  · rw [cnt_last (by omega), n0, if_neg (by omega), cnt_congr (g := u.2.1 0) _ (fun i i0 i1 => b0 i (by omega))]
    show u.1 11 = _
    have := hT.2.2.2.2.2.1
    omega
  · intro k k0 k1
    exact slotv_congr (b0 k k1) (b1 k k1) (fun _ => rfl) (fun _ => ⟨by rw [g10], fun i _ _ => by rw [g9]⟩)
  · intro k k0 k1
    exact kind_congr (hT.kind k0 k1) k0 (fun j _ hj => b0 j (by omega)) (b1 k k1) (fun _ => rfl) (fun _ => by rw [g10])
  · exact Or.inr (Or.inr ⟨by rw [n0]; exact l0, by rw [n0]; exact l1, by rw [n1]; exact r0, by rw [n1]; exact r1⟩)
  · unfold slotv
    rw [n0, n1, if_neg (by omega), if_neg (by omega)]
  · intro _ j j0 j1 hj
    rw [n0] at hj
    rw [n1]
    exact hno j j0 j1 hj
theorem s_pair {l r : Int} {Q : Int → iST → Prop} {u : iST} (hT : TI u) (hn : u.1 8 < 452000) (l0 : 0 ≤ l) (l1 : l < u.1 8) (r0 : 0 ≤ r) (r1 : r < u.1 8)
    (hold : ∀ k, 0 ≤ k → k < u.1 8 → u.2.1 0 k = l → u.2.1 1 k = r → Q k u) (hnew : (∀ j, 0 ≤ j → j < u.1 8 → u.2.1 0 j = l → u.2.1 1 j ≠ r) → Q (u.1 8) (uAdd u l r (slotF l r) (hgt u l r))) : w_pair l r Q u := by
  have h8 := hT.1
  have hr := slotF_r l r
  unfold w_pair
  refine s_slot (bd_i hr.1 hr.2 (rd_i fun _ => ?_))
  unfold w_pair_14
  have hh := hT.head hr.1 hr.2
  refine lf4 (B := fun R x1 x2 x3 x4 u => w_pair_14b R Q x1 x2 x3 x4 u) (fun x1 x2 x3 x4 v => v = u ∧ x1 = l ∧ x2 = r ∧ x3 = slotF l r ∧ -1 ≤ x4 ∧ x4 < u.1 8 ∧ (x4 = -1 ∨ slotv u x4 = slotF l r) ∧ ∀ j, 0 ≤ j → j < u.1 8 → slotv u j = slotF l r → x4 < j → u.2.1 0 j = l → u.2.1 1 j ≠ r) (fun _ _ _ x4 _ => (x4 + 1).toNat) ?_ ⟨rfl, rfl, rfl, rfl, hh.1, hh.2.1, hh.2.2.1, fun j j0 j1 hj hx => absurd (hh.2.2.2 j j0 j1 hj) (by omega)⟩
  intro x1 x2 x3 x4 v hI R ih
  obtain ⟨rfl, rfl, rfl, rfl, q1, q2, q3, q4⟩ := hI
  unfold w_pair_14b
  refine br_i (fun hc => ?_) (fun hc => ?_)
  · refine s_added (by omega) hn hr.1 hr.2 (fun _ => ?_) ?_
    · have a := hT.node l0 l1
      have b := hT.node r0 r1
      have := a.2.1; have := a.2.2.1; have := b.2.1; have := b.2.2.1
      omega
    · refine hnew (fun j j0 j1 hj => ?_)
      intro hj2
      refine q4 j j0 j1 ?_ (by omega) hj hj2
      unfold slotv
      rw [hj, hj2, if_neg (by omega), if_neg (by omega)]
  · have nx := hT.node (k := x4) (by omega) q2
    have goon : (v.2.1 0 x4 = x1 → v.2.1 1 x4 ≠ x2) → w_pair_45 R Q x1 x2 (slotF x1 x2) x4 v := by
      intro hx
      unfold w_pair_45
      refine bd_i (by omega) (by omega) (rd_i fun _ => ?_)
      refine ih _ _ _ _ _ ⟨rfl, rfl, rfl, rfl, nx.2.2.2.1, by have := nx.2.2.2.2.1; omega, ?_, ?_⟩ ?_
      · rcases nx.2.2.2.2.2.1 with h | h
        · exact Or.inl h
        · exact Or.inr (by rw [h]; omega)
      · intro j j0 j1 hj hx4 hl
        by_cases e : j = x4
        · subst e; exact hx hl
        · refine q4 j j0 j1 hj ?_ hl
          rcases Int.lt_or_le x4 j with z | z
          · exact z
          · have := nx.2.2.2.2.2.2 j j0 (by omega) (by omega)
            omega
      · have := nx.2.2.2.1; have := nx.2.2.2.2.1
        omega
    refine bd_i (by omega) (by omega) (rd_i fun _ => br_i (fun hd => goon (fun z => absurd z hd)) (fun hd => bd_i (by omega) (by omega) (rd_i fun _ => br_i (fun he => goon (fun _ => he)) (fun he => ?_))))
    exact hold x4 (by omega) q2 (by omega) (by omega)
