/-! growth of the table -/
def Ext (u v : iST) : Prop := (u.1 8 ≤ v.1 8 ∧ u.1 6 ≤ v.1 6 ∧ u.1 11 ≤ v.1 11) ∧ (∀ k, 0 ≤ k → k < u.1 8 → v.2.1 0 k = u.2.1 0 k ∧ v.2.1 1 k = u.2.1 1 k ∧ v.2.1 4 k = u.2.1 4 k) ∧ (∀ i, 0 ≤ i → i < u.1 6 → v.2.2 i = u.2.2 i) ∧ (∀ i, 0 ≤ i → i < u.1 11 → v.2.1 10 i = u.2.1 10 i) ∧ ∀ i, 0 ≤ i → i < 12 * u.1 11 → v.2.1 9 i = u.2.1 9 i
theorem Ext.rf (u : iST) : Ext u u := ⟨⟨Int.le_refl _, Int.le_refl _, Int.le_refl _⟩, fun _ _ _ => ⟨rfl, rfl, rfl⟩, fun _ _ _ => rfl, fun _ _ _ => rfl, fun _ _ _ => rfl⟩
theorem Ext.tr {u v w : iST} (h : Ext u v) (g : Ext v w) : Ext u w := by
  obtain ⟨⟨a1, a2, a3⟩, a4, a5, a6, a7⟩ := h
  obtain ⟨⟨b1, b2, b3⟩, b4, b5, b6, b7⟩ := g
  refine ⟨⟨by omega, by omega, by omega⟩, fun k k0 k1 => ?_, fun i i0 i1 => ?_, fun i i0 i1 => ?_, fun i i0 i1 => ?_⟩
  · obtain ⟨c1, c2, c3⟩ := a4 k k0 k1
    obtain ⟨d1, d2, d3⟩ := b4 k k0 (by omega)
    exact ⟨d1.trans c1, d2.trans c2, d3.trans c3⟩
  · exact (b5 i i0 (by omega)).trans (a5 i i0 i1)
  · exact (b6 i i0 (by omega)).trans (a6 i i0 i1)
  · exact (b7 i i0 (by omega)).trans (a7 i i0 i1)
/-- the sizes of old objects stay, new ones have none -/
def Szs (u v : iST) : Prop := (∀ k, 0 ≤ k → k < u.1 8 → v.2.1 3 k = u.2.1 3 k) ∧ ∀ k, u.1 8 ≤ k → k < v.1 8 → v.2.1 3 k = 0
theorem Szs.rf (u : iST) : Szs u u := ⟨fun _ _ _ => rfl, fun k h0 h1 => by omega⟩
theorem Szs.tr {u v w : iST} (h : Szs u v) (g : Szs v w) (h0 : 0 ≤ u.1 8) (h1 : u.1 8 ≤ v.1 8) (h2 : v.1 8 ≤ w.1 8) : Szs u w := by
  refine ⟨fun k k0 k1 => (g.1 k k0 (by omega)).trans (h.1 k k0 k1), fun k k0 k1 => ?_⟩
  rcases Int.lt_or_le k (v.1 8) with z | z
  · exact (g.1 k (by omega) z).trans (h.2 k k0 z)
  · exact g.2 k z k1
/-- nothing but the fields of n has changed -/
def Fx (n : Nat → Bool) (u v : iST) : Prop := ∀ k, n k = false → v.1 k = u.1 k ∧ v.2.1 k = u.2.1 k
theorem Fx.rf (n : Nat → Bool) (u : iST) : Fx n u u := fun _ _ => ⟨rfl, rfl⟩
theorem Fx.tr {n : Nat → Bool} {u v w : iST} (h : Fx n u v) (g : Fx n v w) : Fx n u w := fun k hk => ⟨(g k hk).1.trans (h k hk).1, (g k hk).2.trans (h k hk).2⟩
theorem Fx.mono {n n' : Nat → Bool} {u v : iST} (h : Fx n u v) (hn : ∀ k, n' k = false → n k = false) : Fx n' u v := fun k hk => h k (hn k hk)
def fT (k : Nat) : Bool := decide (k ≤ 11)
theorem Fx_I {n : Nat → Bool} {u : iST} {k : Nat} {x : Int} (h : n k = true) : Fx n u (iI u k x) := fun j hj => ⟨if_neg (fun e => by rw [e, h] at hj; cases hj), rfl⟩
theorem Fx_A {n : Nat → Bool} {u : iST} {k : Nat} {i x : Int} (h : n k = true) : Fx n u (iA u k i x) := fun j hj => ⟨rfl, if_neg (fun e => by rw [e, h] at hj; cases hj)⟩
theorem Fx_L {n : Nat → Bool} {u : iST} {i x : Int} : Fx n u (iL u i x) := fun _ _ => ⟨rfl, rfl⟩
theorem Fx_add {u : iST} {l r h x : Int} : Fx fT u (uAdd u l r h x) := fun j hj => by
  have hj : ¬ j ≤ 11 := by simpa [fT] using hj
  exact ⟨by rw [uAdd_s, if_neg (by omega)], uAdd_g ⟨by omega, by omega, by omega, by omega, by omega, by omega⟩⟩
theorem Szs_add {u : iST} {l r h x : Int} : Szs u (uAdd u l r h x) := ⟨fun k k0 k1 => by rw [uAdd_3, if_neg (by omega)], fun k k0 k1 => by
  rw [uAdd_s, if_pos rfl] at k1
  rw [uAdd_3, if_pos (by omega)]⟩
theorem Ext_add {u : iST} {l r h x : Int} : Ext u (uAdd u l r h x) := ⟨⟨by rw [uAdd_s, if_pos rfl]; omega, Int.le_refl _, Int.le_refl _⟩, fun k k0 k1 => ⟨by rw [uAdd_0, if_neg (by omega)], by rw [uAdd_1, if_neg (by omega)], by rw [uAdd_4, if_neg (by omega)]⟩, fun _ _ _ => rfl, fun i _ _ => by rw [uAdd_g (by decide)], fun i _ _ => by rw [uAdd_g (by decide)]⟩
/-- what a making leaves: at most d objects, e naturals more, nothing else changed -/
def Grow (u v : iST) (d e : Int) : Prop := TI v ∧ Ext u v ∧ Szs u v ∧ Fx fT u v ∧ v.1 8 ≤ u.1 8 + d ∧ v.1 6 ≤ u.1 6 + e ∧ v.1 11 = u.1 11
theorem Grow.rf {u : iST} (hT : TI u) : Grow u u 0 0 := ⟨hT, Ext.rf u, Szs.rf u, Fx.rf _ u, by omega, by omega, rfl⟩
theorem Grow.tr {u v w : iST} {d e d' e' : Int} (h : Grow u v d e) (g : Grow v w d' e') (h0 : 0 ≤ u.1 8) : Grow u w (d + d') (e + e') := by
  obtain ⟨a1, a2, a3, a4, a5, a6, a7⟩ := h
  obtain ⟨b1, b2, b3, b4, b5, b6, b7⟩ := g
  exact ⟨b1, a2.tr b2, a3.tr b3 h0 a2.1.1 b2.1.1, a4.tr b4, by omega, by omega, b7.trans a7⟩
theorem Grow.mono {u v : iST} {d e d' e' : Int} (h : Grow u v d e) (hd : d ≤ d') (he : e ≤ e') : Grow u v d' e' := by
  obtain ⟨a1, a2, a3, a4, a5, a6, a7⟩ := h
  exact ⟨a1, a2, a3, a4, by omega, by omega, a7⟩
/-- k is the pair of l and r, made only where there was none -/
theorem g_pair {l r : Int} {Q : Int → iST → Prop} {u : iST} (hT : TI u) (hn : u.1 8 < 452000) (l0 : 0 ≤ l) (l1 : l < u.1 8) (r0 : 0 ≤ r) (r1 : r < u.1 8)
    (hq : ∀ k v, Grow u v 1 0 → 0 ≤ k → k < v.1 8 → v.2.1 0 k = l → v.2.1 1 k = r → (∀ j, 0 ≤ j → j < u.1 8 → u.2.1 0 j = l → u.2.1 1 j = r → v = u ∧ k = j) → Q k v) : w_pair l r Q u := by
  have h8 := hT.1
  refine s_pair hT hn l0 l1 r0 r1 (fun k k0 k1 h0 h1 => ?_) (fun hno => ?_)
  · refine hq k u ((Grow.rf hT).mono (by omega) (by omega)) k0 k1 h0 h1 (fun j j0 j1 h2 h3 => ⟨rfl, ?_⟩)
    have hu := hT.2.2.2.2.2.2.2.2.2
    rcases Int.lt_trichotomy j k with z | z | z
    · exact absurd (by omega) (hu j k j0 z k1 (by omega) (by omega))
    · exact z.symm
    · exact absurd (by omega) (hu k j k0 z j1 (by omega) (by omega))
  · refine hq _ _ ⟨TI_pair hT hn l0 l1 r0 r1 hno, Ext_add, Szs_add, Fx_add, by rw [uAdd_s, if_pos rfl]; omega, by rw [uAdd_s, if_neg (by decide)]; omega, by rw [uAdd_s, if_neg (by decide)]⟩ (by omega) (by rw [uAdd_s, if_pos rfl]; omega) (by rw [uAdd_0, if_pos rfl]) (by rw [uAdd_1, if_pos rfl]) (fun j j0 j1 h2 h3 => absurd h3 (hno j j0 j1 h2))
def uNat (u : iST) (x : Int) : iST := uAdd (iI (iL u (u.1 6) x) 6 (u.1 6 + 1)) (-1) (u.1 6) (slotF (wl2i x) (wl2i (wlshr x 32))) 0
theorem TI_nat {u : iST} {x : Int} (hT : TI u) (hn : u.1 8 < 452000) (hm : u.1 6 < 40000) (x0 : 0 ≤ x) (x1 : x ≤ 4611686018427387903) : TI (uNat u x) := by
  have h8 := hT.1
  have hc := hT.2.2.2.2.1
  have hcr := cnt_r (u.2.1 0) (-1) (u.1 8).toNat
  have hr := slotF_r (wl2i x) (wl2i (wlshr x 32))
  have b0 : ∀ k, k < u.1 8 → (uNat u x).2.1 0 k = u.2.1 0 k := fun k hk => by unfold uNat; rw [uAdd_0]; exact if_neg (by show ¬ k = u.1 8; omega)
  have b1 : ∀ k, k < u.1 8 → (uNat u x).2.1 1 k = u.2.1 1 k := fun k hk => by unfold uNat; rw [uAdd_1]; exact if_neg (by show ¬ k = u.1 8; omega)
  have g9 : (uNat u x).2.1 9 = u.2.1 9 := uAdd_g (by decide)
  have g10 : (uNat u x).2.1 10 = u.2.1 10 := uAdd_g (by decide)
  have n0 : (uNat u x).2.1 0 (u.1 8) = -1 := by unfold uNat; rw [uAdd_0]; exact if_pos rfl
  have n1 : (uNat u x).2.1 1 (u.1 8) = u.1 6 := by unfold uNat; rw [uAdd_1]; exact if_pos rfl
  have l1 : ∀ i, (uNat u x).2.2 i = if i = u.1 6 then x else u.2.2 i := fun i => rfl
  have s6 : (uNat u x).1 6 = u.1 6 + 1 := rfl
  refine TI_new (h := slotF (wl2i x) (wl2i (wlshr x 32))) hT hn rfl (by rw [s6]; omega) hT.2.2.2.1 ?_ ?_ (fun k _ hk => b0 k hk) (fun k _ hk => b1 k hk) (fun k _ hk => by unfold uNat; rw [uAdd_2]; exact if_neg (by show ¬ k = u.1 8; omega)) (fun k _ hk => by unfold uNat; rw [uAdd_4]; exact if_neg (by show ¬ k = u.1 8; omega)) ?_ ?_ ?_ ?_ hr.1 hr.2 ?_ ?_ (fun j => by unfold uNat; rw [uAdd_7]; rfl) ?_
  · rw [cnt_last (by omega), n0, if_pos rfl, cnt_congr (g := u.2.1 0) _ (fun i i0 i1 => b0 i (by omega)), s6]
    omega
  · rw [cnt_last (by omega), n0, if_neg (by omega), cnt_congr (g := u.2.1 0) _ (fun i i0 i1 => b0 i (by omega))]
    show u.1 11 = _
    have := hT.2.2.2.2.2.1
    omega
  · intro k k0 k1
    refine slotv_congr (b0 k k1) (b1 k k1) (fun z => ?_) (fun _ => ⟨by rw [g10], fun i _ _ => by rw [g9]⟩)
    rw [l1, if_neg (by have := hT.nat k0 k1 z; omega)]
  · intro k k0 k1
    refine kind_congr (hT.kind k0 k1) k0 (fun j _ hj => b0 j (by omega)) (b1 k k1) (fun z => ?_) (fun _ => by rw [g10])
    rw [l1, if_neg (by have := hT.nat k0 k1 z; omega)]
  · refine Or.inl ⟨n0, ?_, ?_, ?_⟩
    · rw [n1, cnt_congr (g := u.2.1 0) _ (fun i i0 i1 => b0 i (by omega))]
      exact hc
    · rw [n1, l1, if_pos rfl]; exact x0
    · rw [n1, l1, if_pos rfl]; exact x1
  · have e : (uNat u x).2.1 4 (u.1 8) = 0 := by unfold uNat; rw [uAdd_4]; exact if_pos rfl
    rw [e]; omega
  · unfold slotv
    rw [n0, n1, if_pos rfl, l1, if_pos rfl]
  · unfold uNat; rw [uAdd_2]; exact if_pos rfl
  · intro z
    rw [n0] at z
    omega
/-- a natural, made only where there was none -/
theorem g_natural {x : Int} {Q : Int → iST → Prop} {u : iST} (hT : TI u) (hn : u.1 8 < 452000) (hm : u.1 6 < 40000) (x0 : 0 ≤ x) (x1 : x ≤ 4611686018427387903)
    (hq : ∀ k v, Grow u v 1 1 → 0 ≤ k → k < v.1 8 → v.2.1 0 k = -1 → v.2.2 (v.2.1 1 k) = x → Q k v) : w_natural x Q u := by
  have h8 := hT.1
  have hc := hT.2.2.2.2.1
  have hcr := cnt_r (u.2.1 0) (-1) (u.1 8).toNat
  have hr := slotF_r (wl2i x) (wl2i (wlshr x 32))
  unfold w_natural
  refine rd_i fun _ => rl_i fun _ => rd_i fun _ => s_slot (bd_i hr.1 hr.2 (rd_i fun _ => ?_))
  unfold w_natural_19
  have hh := hT.head hr.1 hr.2
  refine lf3 (B := fun R x1 x3 x4 u => w_natural_19b R Q x1 x3 x4 u) (fun x1 x3 x4 v => v = u ∧ x1 = x ∧ x3 = slotF (wl2i x) (wl2i (wlshr x 32)) ∧ -1 ≤ x4 ∧ x4 < u.1 8) (fun _ _ x4 _ => (x4 + 1).toNat) ?_ ⟨rfl, rfl, rfl, hh.1, hh.2.1⟩
  intro y1 x3 x4 v hI R ih
  obtain ⟨rfl, rfl, rfl, q1, q2⟩ := hI
  unfold w_natural_19b
  refine br_i (fun hc => ?_) (fun hc => ?_)
  · refine rd_i fun _ => bd_i (by omega) hm (sw_i (rd_i fun _ => ov_i (show -2147483648 ≤ v.1 6 + 1 by omega) (show v.1 6 + 1 < 2147483648 by omega) (sw_i (rd_i fun _ => ov_i (show -2147483648 ≤ v.1 6 + 1 - 1 by omega) (show v.1 6 + 1 - 1 < 2147483648 by omega) ?_))))
    have e6 : v.1 6 + 1 - 1 = v.1 6 := by omega
    show w_added (-1) (v.1 6 + 1 - 1) _ _ _
    rw [e6]
    refine s_added (show 0 ≤ v.1 8 by omega) hn hr.1 hr.2 (fun z => absurd z (by omega)) ?_
    show Q (v.1 8) (uNat v y1)
    refine hq _ _ ⟨TI_nat hT hn hm x0 x1, ⟨⟨show v.1 8 ≤ v.1 8 + 1 by omega, show v.1 6 ≤ v.1 6 + 1 by omega, Int.le_refl _⟩, fun k k0 k1 => ?_, fun i i0 i1 => if_neg (by omega), fun _ _ _ => rfl, fun _ _ _ => rfl⟩, ⟨fun k k0 k1 => ?_, fun k k0 k1 => ?_⟩, fun j hj => ?_, show v.1 8 + 1 ≤ v.1 8 + 1 from Int.le_refl _, show v.1 6 + 1 ≤ v.1 6 + 1 from Int.le_refl _, rfl⟩ (by omega) (show v.1 8 < v.1 8 + 1 by omega) ?_ ?_
    · unfold uNat
      rw [uAdd_0, uAdd_1, uAdd_4]
      exact ⟨if_neg (by show ¬ k = v.1 8; omega), if_neg (by show ¬ k = v.1 8; omega), if_neg (by show ¬ k = v.1 8; omega)⟩
    · unfold uNat
      rw [uAdd_3]
      exact if_neg (by show ¬ k = v.1 8; omega)
    · have k1 : k < v.1 8 + 1 := k1
      unfold uNat
      rw [uAdd_3]
      exact if_pos (by show k = v.1 8; omega)
    · have hj2 : ¬ j ≤ 11 := by simpa [fT] using hj
      have a := Fx_add (u := iI (iL v (v.1 6) y1) 6 (v.1 6 + 1)) (l := -1) (r := v.1 6) (h := slotF (wl2i y1) (wl2i (wlshr y1 32))) (x := 0) j hj
      exact ⟨a.1.trans (if_neg (by omega)), a.2⟩
    · unfold uNat; rw [uAdd_0]; exact if_pos rfl
    · have e : (uNat v y1).2.1 1 (v.1 8) = v.1 6 := by unfold uNat; rw [uAdd_1]; exact if_pos rfl
      rw [e]
      exact if_pos rfl
  · have nx := hT.node (k := x4) (by omega) q2
    have goon : w_natural_50 R Q y1 (slotF (wl2i y1) (wl2i (wlshr y1 32))) x4 v := by
      unfold w_natural_50
      refine bd_i (by omega) (by omega) (rd_i fun _ => ?_)
      refine ih _ _ _ _ ⟨rfl, rfl, rfl, nx.2.2.2.1, by have := nx.2.2.2.2.1; omega⟩ ?_
      have := nx.2.2.2.1; have := nx.2.2.2.2.1
      omega
    refine bd_i (by omega) (by omega) (rd_i fun _ => br_i (fun _ => goon) (fun hd => ?_))
    have hd : v.2.1 0 x4 = -1 := by omega
    have hv := hT.nat (k := x4) (by omega) q2 hd
    refine s_value (by omega) (by omega) hv.1 hv.2.2.1 fun _ => br_i (fun _ => goon) (fun he => ?_)
    exact hq x4 v ((Grow.rf hT).mono (by omega) (by omega)) (by omega) q2 hd (by omega)
