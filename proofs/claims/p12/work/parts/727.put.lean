-- deps: 726
/-! the class: letters and atoms are written -/
theorem pc_put [DecidableEq Ob] {th c : Int} {Q : iST → Prop} {u : iST} (hT : CT u) (h : 0 ≤ u.2.1 54 th ∧ u.2.1 54 th ≤ slenI th) (hc : inC c) (hq : ∀ v, TlC th u v [c] → v.2.1 56 = u.2.1 56 → Q v) : pv_9_put th c Q u := by
  have hs := slen_low th
  unfold pv_9_put
  intro a ea _
  rw [ea]
  refine ⟨fun z => hq u ⟨CG.rf hT, rfl, h, ?_, fun _ _ => rfl, fun _ _ => rfl⟩ rfl, fun z => ?_⟩
  · rw [List.take_append_of_le_length (by rw [LtC_len]; omega), List.take_of_length_le (by rw [LtC_len]; omega)]
  intro b eb _ _ _ _ w1 e1 d ed _ _ w2 e2
  rw [eb] at e1
  have g1 : CG f80 f8L u w1 := by rw [e1]; exact CG_A hT (by omega) (by decide)
  have g2 : CG f80 f8L w1 w2 := by rw [e2]; exact CG_A g1.1 (by omega) (by decide)
  have ed' : d = u.2.1 54 th := by rw [ed, e1]; rfl
  rw [ed'] at e2
  have w54 : ∀ j, w2.2.1 54 j = if j = th then u.2.1 54 th + 1 else u.2.1 54 j := fun j => by rw [e2, e1]; rfl
  have w55 : ∀ j, w2.2.1 55 j = if j = 2000 * th + u.2.1 54 th then c else u.2.1 55 j := fun j => by rw [e2, e1]; rfl
  have h54 : w2.2.1 54 th = u.2.1 54 th + 1 := by rw [w54, if_pos rfl]
  refine hq w2 ⟨g1.tr g2, by rw [e2, e1]; rfl, by rw [h54]; omega, LtC_app h ?_ (fun i i0 i1 => by rw [w55, if_neg (by omega)]) (fun i hi _ => ?_), fun j hj => by rw [w54, if_neg hj], fun j hj => by rw [w55, if_neg (by omega)]⟩ (by rw [e2, e1]; rfl)
  · rw [h54]
    show u.2.1 54 th + 1 = if u.2.1 54 th + 1 < slenI th then u.2.1 54 th + 1 else slenI th
    split <;> omega
  · have e : i = 0 := by simp at hi; omega
    rw [e]
    show some c = _
    rw [w55, if_pos (by omega)]
theorem pc_putAtom [DecidableEq Ob] {th k : Int} {Q : iST → Prop} {u : iST} (hT : CT u) (h : 0 ≤ u.2.1 54 th ∧ u.2.1 54 th ≤ slenI th) (hk : VN u k) (hp : (oc u k).isPr = false) (hq : ∀ v, TlC th u v (Ob.atomT (oc u k)) → v.2.1 56 = u.2.1 56 → 1 ≤ (Ob.atomT (oc u k)).length → Q v) : pv_9_putAtom th (u.2.2 k) Q u := by
  have hs := slen_low th
  have cell := hT.1.2.1 k hk.1 hk.2
  have c0 : 0 ≤ u.2.2 k := by
    rcases CIc.cases u k with a | a | a
    · rw [oc_pr hT.1 hk.1 hk.2 a] at hp; cases hp
    · exact a.1
    · omega
  have c1 : u.2.2 k < 9223372036854775808 := by
    rcases CIc.cases u k with a | a | a
    · omega
    · omega
    · exact (cell.2 a).1
  -- any base
  have go : ∀ (b : Nat) (χ : Nat → Int) (nt : Int) (n : Nat), ((b = 10 ∧ nt = 1 ∧ χ = fun d : Nat => 48 + (d : Int)) ∨ (b = 47 ∧ nt = 0 ∧ χ = alC)) → n < 4611686018427387904 → (∀ p : Nat, n < b ^ p → (p = 1 ∨ b ^ (p - 1) ≤ n) → 1 ≤ p → Ob.atomT (oc u k) = dD b χ p n) → pv_9_putAtom_45 Q th nt (b : Int) (n : Int) 1 (Int.tdiv (n : Int) (b : Int)) u := by
    intro b χ nt n hb hn hd
    have b1 : 1 < b := by rcases hb with ⟨q, _⟩ | ⟨q, _⟩ <;> omega
    have b2 : b ≤ 47 := by rcases hb with ⟨q, _⟩ | ⟨q, _⟩ <;> omega
    refine pv_9_putAtom_45_i (fun x0 x3 x4 x5 x7 x8 y => y = u ∧ x0 = th ∧ x3 = nt ∧ x4 = (b : Int) ∧ x5 = (n : Int) ∧ ∃ p : Nat, 1 ≤ p ∧ x7 = (p : Int) ∧ x8 = ((n / b ^ p : Nat) : Int) ∧ (p = 1 ∨ b ^ (p - 1) ≤ n)) ?_ ⟨rfl, rfl, rfl, rfl, rfl, 1, Nat.le_refl _, rfl, by rw [Nat.pow_one]; exact (Int.ofNat_tdiv n b).symm, Or.inl rfl⟩
    rintro x0 x3 x4 x5 x7 x8 y ⟨ey, e0, e3, e4, e5, p, p1, e7, e8, hp2⟩
    rw [ey, e0, e3, e4, e5, e7, e8]
    have pb : 0 < b ^ p := Nat.pow_pos (by omega)
    unfold pv_9_putAtom_45b
    refine ⟨fun z => ?_, fun z => ?_⟩
    rotate_left
    · intro _
      refine ⟨by omega, rfl, rfl, rfl, rfl, rfl, p + 1, by omega, by omega, ?_, Or.inr ?_⟩
      · rw [Nat.pow_succ, ← Nat.div_div_eq_div_mul]
        exact (Int.ofNat_tdiv (n / b ^ p) b).symm
      · show b ^ p ≤ n
        have : 0 < n / b ^ p := by omega
        exact (Nat.div_pos_iff.mp this).2
    · have hlt : n < b ^ p := by
        have : n / b ^ p = 0 := by
          generalize n / b ^ p = q9 at z
          omega
        rcases Nat.lt_or_ge n (b ^ p) with q | q
        · exact q
        · have := Nat.div_pos q pb
          omega
      have hD := hd p hlt hp2 p1
      rw [hD] at hq
      intro _
      refine pv_9_putAtom_72_i (fun x0 x3 x4 x5 x7 x8 y => x0 = th ∧ x3 = nt ∧ x4 = (b : Int) ∧ x7 = (p : Int) ∧ -1 ≤ x8 ∧ x8 < (p : Int) ∧ (x5 = ((n / b ^ (p - 1 - x8.toNat) : Nat) : Int) ∨ x8 = -1) ∧ CG f80 f8L u y ∧ y.2.2 = u.2.2 ∧ y.2.1 54 = u.2.1 54 ∧ y.2.1 56 = u.2.1 56 ∧ (∀ j, (j < 2000 * th ∨ 2000 * th + 2000 ≤ j) → y.2.1 55 j = u.2.1 55 j) ∧ (∀ i, 0 ≤ i → i < u.2.1 54 th → y.2.1 55 (2000 * th + i) = u.2.1 55 (2000 * th + i)) ∧ ∀ i : Nat, x8 < (i : Int) → i < p → u.2.1 54 th + (i : Int) < slenI th → y.2.1 55 (2000 * th + (u.2.1 54 th + (i : Int))) = χ (n / b ^ (p - 1 - i) % b)) ?_ ⟨rfl, rfl, rfl, rfl, by omega, by omega, Or.inl (by rw [show p - 1 - ((p : Int) - 1).toNat = 0 by omega, Nat.pow_zero, Nat.div_one]), CG.rf hT, rfl, rfl, rfl, fun _ _ => rfl, fun _ _ _ => rfl, fun i i0 i1 => by omega⟩
      clear e0 e3 e4 e5 e7 e8 ey
      rintro x0 x3 x4 x5 x7 x8 y ⟨e0, e3, e4, e7, m1, m2, h5, gy, yc, y54, y56, yo, yl, yd⟩
      rw [e0, e3, e4, e7]
      unfold pv_9_putAtom_72b
      refine ⟨fun z => ?_, fun z => ?_⟩
      · intro v5 ev5 _ _ v7 ev7 _ w ew
        rw [ev5, y54] at ev7
        have w54 : ∀ j, w.2.1 54 j = if j = th then v7 else u.2.1 54 j := fun j => by rw [ew, ← y54]; rfl
        have w55 : w.2.1 55 = y.2.1 55 := by rw [ew]; rfl
        have gw : CG f80 f8L y w := by rw [ew]; exact CG_A gy.1 (by omega) (by decide)
        have hw : w.2.1 54 th = v7 := by rw [w54, if_pos rfl]
        refine hq w ⟨gy.tr gw, by rw [ew]; exact yc, by rw [hw, ev7]; split <;> omega, LtC_app h (by rw [hw, ev7, dD_len]) (fun i i0 i1 => by rw [w55]; exact yl i i0 i1) (fun i i0 i1 => ?_), fun j hj => by rw [w54, if_neg hj], fun j hj => by rw [w55]; exact yo j hj⟩ (by rw [ew]; exact y56) (by rw [dD_len]; omega)
        rw [dD_len] at i0
        rw [dD_get b χ p n i i0, w55, yd i (by omega) i0 i1]
      · have h5 := h5.resolve_right (by omega)
        obtain ⟨m, em⟩ : ∃ m : Nat, x8 = (m : Int) := ⟨x8.toNat, by omega⟩
        rw [em] at h5 m2 z m1 yd ⊢
        rw [Int.toNat_natCast] at h5
        have e10 : wl2i (Int.tmod x5 (b : Int)) = ((n / b ^ (p - 1 - m) % b : Nat) : Int) := by
          have e1 : Int.tmod x5 (b : Int) = ((n / b ^ (p - 1 - m) % b : Nat) : Int) := by rw [h5]; exact (Int.ofNat_tmod _ _).symm
          have hlt2 : n / b ^ (p - 1 - m) % b < b := Nat.mod_lt _ (by omega)
          rw [e1]
          exact wl2i_k (by omega) (by omega)
        have hlt2 : n / b ^ (p - 1 - m) % b < b := Nat.mod_lt _ (by omega)
        -- the next digit
        have next : ∀ w : iST, CG f80 f8L u w → w.2.2 = u.2.2 → w.2.1 54 = u.2.1 54 → w.2.1 56 = u.2.1 56 → (∀ j, (j < 2000 * th ∨ 2000 * th + 2000 ≤ j) → w.2.1 55 j = u.2.1 55 j) → (∀ i, 0 ≤ i → i < u.2.1 54 th → w.2.1 55 (2000 * th + i) = u.2.1 55 (2000 * th + i)) → (∀ i : Nat, (m : Int) - 1 < (i : Int) → i < p → u.2.1 54 th + (i : Int) < slenI th → w.2.1 55 (2000 * th + (u.2.1 54 th + (i : Int))) = χ (n / b ^ (p - 1 - i) % b)) → ((th = th ∧ nt = nt ∧ (b : Int) = (b : Int) ∧ (p : Int) = (p : Int) ∧ -1 ≤ (m : Int) + (-1) ∧ (m : Int) + (-1) < (p : Int) ∧ (Int.tdiv x5 (b : Int) = ((n / b ^ (p - 1 - ((m : Int) + (-1)).toNat) : Nat) : Int) ∨ (m : Int) + (-1) = -1) ∧ CG f80 f8L u w ∧ w.2.2 = u.2.2 ∧ w.2.1 54 = u.2.1 54 ∧ w.2.1 56 = u.2.1 56 ∧ (∀ j, (j < 2000 * th ∨ 2000 * th + 2000 ≤ j) → w.2.1 55 j = u.2.1 55 j) ∧ (∀ i, 0 ≤ i → i < u.2.1 54 th → w.2.1 55 (2000 * th + i) = u.2.1 55 (2000 * th + i)) ∧ ∀ i : Nat, (m : Int) + (-1) < (i : Int) → i < p → u.2.1 54 th + (i : Int) < slenI th → w.2.1 55 (2000 * th + (u.2.1 54 th + (i : Int))) = χ (n / b ^ (p - 1 - i) % b))) := by
          intro w gw wc w54 w56 wo wl wd
          refine ⟨rfl, rfl, rfl, rfl, by omega, by omega, ?_, gw, wc, w54, w56, wo, wl, fun i i0 => wd i (by omega)⟩
          by_cases c : m = 0
          · right; omega
          · left
            rw [h5]
            refine (Int.ofNat_tdiv _ _).symm.trans ?_
            rw [Nat.div_div_eq_div_mul, ← Nat.pow_succ, show p - 1 - ((m : Int) + (-1)).toNat = (p - 1 - m).succ by omega]
        refine ⟨by omega, ?_⟩
        intro v10 ev10 _
        rw [e10] at ev10
        refine ⟨by omega, ?_⟩
        intro v13 ev13 _ _
        rw [ev13, y54]
        refine ⟨fun zz => ?_, fun zz => ?_⟩
        · intro _
          refine next y gy yc y54 y56 yo yl (fun i i0 i1 i2 => yd i ?_ i1 i2)
          by_cases q : i = m
          · rw [q] at i2; omega
          · omega
        · intro v16 ev16 _ _
          rw [ev16]
          -- a letter is set
          have set : ∀ (x : Int) (w : iST), x = χ (n / b ^ (p - 1 - m) % b) → w = iA y 55 (2000 * th + (u.2.1 54 th + (m : Int))) x → ((th = th ∧ nt = nt ∧ (b : Int) = (b : Int) ∧ (p : Int) = (p : Int) ∧ -1 ≤ (m : Int) + (-1) ∧ (m : Int) + (-1) < (p : Int) ∧ (Int.tdiv x5 (b : Int) = ((n / b ^ (p - 1 - ((m : Int) + (-1)).toNat) : Nat) : Int) ∨ (m : Int) + (-1) = -1) ∧ CG f80 f8L u w ∧ w.2.2 = u.2.2 ∧ w.2.1 54 = u.2.1 54 ∧ w.2.1 56 = u.2.1 56 ∧ (∀ j, (j < 2000 * th ∨ 2000 * th + 2000 ≤ j) → w.2.1 55 j = u.2.1 55 j) ∧ (∀ i, 0 ≤ i → i < u.2.1 54 th → w.2.1 55 (2000 * th + i) = u.2.1 55 (2000 * th + i)) ∧ ∀ i : Nat, (m : Int) + (-1) < (i : Int) → i < p → u.2.1 54 th + (i : Int) < slenI th → w.2.1 55 (2000 * th + (u.2.1 54 th + (i : Int))) = χ (n / b ^ (p - 1 - i) % b))) := by
            intro x w ex ew
            have gw : CG f80 f8L y w := by rw [ew]; exact CG_A gy.1 (by omega) (by decide)
            have w55 : ∀ j, w.2.1 55 j = if j = 2000 * th + (u.2.1 54 th + (m : Int)) then x else y.2.1 55 j := fun j => by rw [ew]; rfl
            refine next w (gy.tr gw) (by rw [ew]; exact yc) (by rw [ew]; exact y54) (by rw [ew]; exact y56) (fun j hj => by rw [w55, if_neg (by omega)]; exact yo j hj) (fun i i0 i1 => by rw [w55, if_neg (by omega)]; exact yl i i0 i1) (fun i i0 i1 i2 => ?_)
            by_cases q : i = m
            · rw [w55, if_pos (by rw [q]), q]; exact ex
            · rw [w55, if_neg (by omega)]; exact yd i (by omega) i1 i2
          rcases hb with ⟨hb10, hnt, hχ⟩ | ⟨hb47, hnt, hχ⟩
          · refine ⟨(fun q => by rw [hnt] at q; cases q), fun _ => ?_⟩
            intro _ v21 ev21 _ _ _ _ w ew _
            rw [ev10, wi2c_dg _ (by omega)] at ev21
            exact set v21 w (by rw [ev21, hχ]) ew
          · refine ⟨fun _ => ?_, fun q => absurd hnt q⟩
            intro _ _ v18 ev18 _ _ _ w ew _
            have e18 := ev18.1
            rw [ev10, alK_alC _ (by omega)] at e18
            exact set v18 w (by rw [e18, hχ]) ew
  unfold pv_9_putAtom
  refine ⟨fun z => ?_, fun z => ?_⟩
  · unfold pv_9_putAtom_13
    refine ⟨fun _ => ?_, fun q => absurd rfl q⟩
    unfold pv_9_putAtom_25
    intro v1 ev1 _
    have e1 : v1 = (((u.2.2 k - 4611686018427387904).toNat : Nat) : Int) := by
      rw [ev1, wland_k c0 c1]; omega
    rw [e1]
    refine ⟨by decide, ?_⟩
    refine go 47 alC 0 _ (Or.inr ⟨rfl, rfl, rfl⟩) (by omega) (fun p h1 h2 h3 => ?_)
    rw [oc_sym z, atomT_sym (wdC_ok _)]
    exact sym_dD (cell.2 z).2 h1 h2 h3
  · unfold pv_9_putAtom_13
    refine ⟨(fun q => by cases q), fun _ => ?_⟩
    unfold pv_9_putAtom_25
    intro v1 ev1 _
    have e1 : v1 = (((u.2.2 k).toNat : Nat) : Int) := by
      rw [ev1, wland_k c0 c1]; omega
    rw [e1]
    refine ⟨by decide, ?_⟩
    refine go 10 (fun d : Nat => 48 + (d : Int)) 1 _ (Or.inl ⟨rfl, rfl, rfl⟩) (by omega) (fun p h1 h2 h3 => ?_)
    rw [oc_nat c0 (by omega), atomT_nat c0]
    exact nat_dD (by omega) h1 h2 h3
