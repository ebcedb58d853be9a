/-! telling -/
theorem TI_eq {u v : iST} (hT : TI u) (hs : ∀ k, k ≤ 11 → v.1 k = u.1 k ∧ v.2.1 k = u.2.1 k) (hL : v.2.2 = u.2.2) : TI v := by
  unfold TI NodeOk HeadOk KindOk slotv at hT ⊢
  rw [(hs 8 (by decide)).1, (hs 6 (by decide)).1, (hs 11 (by decide)).1, (hs 0 (by decide)).2, (hs 1 (by decide)).2, (hs 2 (by decide)).2, (hs 4 (by decide)).2, (hs 7 (by decide)).2, (hs 9 (by decide)).2, (hs 10 (by decide)).2, hL]
  exact hT
theorem Ext_eq {u v : iST} (hs : ∀ k, k ≤ 11 → v.1 k = u.1 k ∧ v.2.1 k = u.2.1 k) (hL : v.2.2 = u.2.2) : Ext u v := by
  unfold Ext
  rw [(hs 8 (by decide)).1, (hs 6 (by decide)).1, (hs 11 (by decide)).1, (hs 0 (by decide)).2, (hs 1 (by decide)).2, (hs 4 (by decide)).2, (hs 9 (by decide)).2, (hs 10 (by decide)).2, hL]
  exact Ext.rf u
theorem Szs_eq {u v : iST} (hs : ∀ k, k ≤ 11 → v.1 k = u.1 k ∧ v.2.1 k = u.2.1 k) : Szs u v := by
  unfold Szs
  rw [(hs 8 (by decide)).1, (hs 3 (by decide)).2]
  exact Szs.rf u
def OI (u : iST) : Prop := 0 ≤ u.1 16 ∧ u.1 16 ≤ 2000 ∧ 0 ≤ u.1 22 ∧ u.1 22 ≤ 200
def rem (u : iST) : Int := if u.1 64 = 0 then 2000 - u.1 16 else 200 - u.1 22
def fL (k : Nat) : Bool := decide (k = 15) || decide (k = 16) || decide (k = 21) || decide (k = 22)
def LPost (u v : iST) : Prop := OI v ∧ Fx fL u v ∧ v.2.2 = u.2.2 ∧ rem v ≤ rem u
theorem LPost.rf {u : iST} (h : OI u) : LPost u u := ⟨h, Fx.rf _ _, rfl, Int.le_refl _⟩
theorem LPost.tr {u v w : iST} (h : LPost u v) (g : LPost v w) : LPost u w := ⟨g.1, h.2.1.tr g.2.1, g.2.2.1.trans h.2.2.1, by have := h.2.2.2; have := g.2.2.2; omega⟩
theorem LPost.tab {u v : iST} (h : LPost u v) : ∀ k, k ≤ 11 → v.1 k = u.1 k ∧ v.2.1 k = u.2.1 k := fun k hk => h.2.1 k (by simp [fL]; omega)
theorem LPost.ti {u v : iST} (h : LPost u v) (hT : TI u) : TI v := TI_eq hT h.tab h.2.2.1
theorem rem_r {u : iST} (h : OI u) : 0 ≤ rem u ∧ rem u ≤ 2000 := by
  unfold OI at h
  unfold rem
  split <;> omega
theorem g_tellLetter {x : Int} {Q : iST → Prop} {u : iST} (h : OI u) (hq : ∀ v, LPost u v → (0 < rem u → rem v < rem u) → Q v) : w_tellLetter x Q u := by
  have ho := h
  unfold OI at ho
  unfold w_tellLetter
  refine rz_i fun _ => br_i (fun hc => rd_i fun _ => br_i (fun hd => ?_) (fun hd => ?_)) (fun hc => rd_i fun _ => br_i (fun hd => ?_) (fun hd => ?_))
  · refine hq u (LPost.rf h) (fun z => ?_)
    unfold rem at z
    rw [if_pos hc] at z
    omega
  · refine rd_i fun _ => bd_i (by omega) (by omega) (sw_i (rd_i fun _ => ov_i (show -2147483648 ≤ u.1 16 + 1 by omega) (show u.1 16 + 1 < 2147483648 by omega) (sw_i ?_)))
    have e : rem (iI (iA u 15 (u.1 16) x) 16 (u.1 16 + 1)) = 2000 - (u.1 16 + 1) := if_pos hc
    have e2 : rem u = 2000 - u.1 16 := if_pos hc
    refine hq _ ⟨⟨show 0 ≤ u.1 16 + 1 by omega, show u.1 16 + 1 ≤ 2000 by omega, ho.2.2.1, ho.2.2.2⟩, (Fx_A (k := 15) rfl).tr (Fx_I (k := 16) rfl), rfl, ?_⟩ (fun _ => ?_)
    · show rem (iI (iA u 15 (u.1 16) x) 16 (u.1 16 + 1)) ≤ rem u
      omega
    · show rem (iI (iA u 15 (u.1 16) x) 16 (u.1 16 + 1)) < rem u
      omega
  · refine hq u (LPost.rf h) (fun z => ?_)
    unfold rem at z
    rw [if_neg hc] at z
    omega
  · refine rd_i fun _ => bd_i (by omega) (by omega) (sw_i (rd_i fun _ => ov_i (show -2147483648 ≤ u.1 22 + 1 by omega) (show u.1 22 + 1 < 2147483648 by omega) (sw_i ?_)))
    have e : rem (iI (iA u 21 (u.1 22) x) 22 (u.1 22 + 1)) = 200 - (u.1 22 + 1) := if_neg hc
    have e2 : rem u = 200 - u.1 22 := if_neg hc
    refine hq _ ⟨⟨ho.1, ho.2.1, show 0 ≤ u.1 22 + 1 by omega, show u.1 22 + 1 ≤ 200 by omega⟩, (Fx_A (k := 21) rfl).tr (Fx_I (k := 22) rfl), rfl, ?_⟩ (fun _ => ?_)
    · show rem (iI (iA u 21 (u.1 22) x) 22 (u.1 22 + 1)) ≤ rem u
      omega
    · show rem (iI (iA u 21 (u.1 22) x) 22 (u.1 22 + 1)) < rem u
      omega
theorem s_isFull {Q : Int → iST → Prop} {u : iST} (h : OI u) (hq : ∀ r, bz r → (r = 0 → 0 < rem u) → Q r u) : w_isFull Q u := by
  unfold OI at h
  unfold w_isFull
  refine rz_i fun _ => br_i (fun hc => rd_i fun _ => br_i (fun hd => zt_0 (hq 0 (Or.inl rfl) ?_)) (fun hd => zt_1 (hq 1 (Or.inr rfl) (by omega)))) (fun hc => rd_i fun _ => br_i (fun hd => zt_0 (hq 0 (Or.inl rfl) ?_)) (fun hd => zt_1 (hq 1 (Or.inr rfl) (by omega))))
  · intro _; unfold rem; rw [if_pos hc]; omega
  · intro _; unfold rem; rw [if_neg hc]; omega
theorem s_isPair {k : Int} {Q : Int → iST → Prop} {u : iST} (k0 : 0 ≤ k) (k1 : k < 452000) (h : ∀ r, bz r → (r = 0 ↔ u.2.1 0 k < 0) → Q r u) : w_isPair k Q u := by
  unfold w_isPair
  exact bd_i k0 k1 (rd_i fun _ => br_i (fun hc => zt_0 (h 0 (Or.inl rfl) (by omega))) (fun hc => zt_1 (h 1 (Or.inr rfl) (by omega))))
theorem s_isSymbol {k : Int} {Q : Int → iST → Prop} {u : iST} (k0 : 0 ≤ k) (k1 : k < 452000) (h : ∀ r, bz r → (r = 0 ↔ u.2.1 0 k ≠ -2) → Q r u) : w_isSymbol k Q u := by
  unfold w_isSymbol
  exact bd_i k0 k1 (rd_i fun _ => br_i (fun hc => zt_0 (h 0 (Or.inl rfl) (by omega))) (fun hc => zt_1 (h 1 (Or.inr rfl) (by omega))))
theorem s_isNatural {k : Int} {Q : Int → iST → Prop} {u : iST} (k0 : 0 ≤ k) (k1 : k < 452000) (h : ∀ r, bz r → (r = 0 ↔ u.2.1 0 k ≠ -1) → Q r u) : w_isNatural k Q u := by
  unfold w_isNatural
  exact bd_i k0 k1 (rd_i fun _ => br_i (fun hc => zt_0 (h 0 (Or.inl rfl) (by omega))) (fun hc => zt_1 (h 1 (Or.inr rfl) (by omega))))
theorem wl2i_eq {x : Int} (h : inR x) : wl2i x = x := by
  unfold wl2i jL
  rw [Int64.toInt32_ofInt]
  exact jI_toInt h
theorem g_tellAtom {k : Int} {Q : iST → Prop} {u : iST} (hT : TI u) (h : OI u) (k0 : 0 ≤ k) (k1 : k < u.1 8) (hk : u.2.1 0 k < 0) (hq : ∀ v, LPost u v → Q v) : w_tellAtom k Q u := by
  have h8 := hT.2.1
  unfold w_tellAtom
  refine s_isSymbol k0 (by omega) fun r _ hr => br_i (fun hc => ?_) (fun hc => ?_)
  · have hd : u.2.1 0 k = -1 := by
      have hkd := hT.kind k0 k1
      have := hr.mp hc
      unfold KindOk at hkd
      omega
    have hv := hT.nat k0 k1 hd
    unfold w_tellAtom_54
    refine lf2 (B := fun R x1 x2 u => w_tellAtom_54b R Q x1 x2 u) (fun x1 x2 v => v = u ∧ x1 = k ∧ 0 < x2 ∧ x2 ≤ 4611686018427387903) (fun _ x2 _ => (4611686018427387904 - x2).toNat) ?_ ⟨rfl, rfl, by decide, by decide⟩
    intro x1 x2 v hI R ih
    obtain ⟨rfl, rfl, p1, p2⟩ := hI
    unfold w_tellAtom_54b
    refine s_value k0 (by omega) hv.1 hv.2.2.1 fun _ => ⟨p1, br_i (fun he => ?_) (fun he => ?_)⟩
    · unfold w_tellAtom_77
      refine lf2 (B := fun R x1 x2 u => w_tellAtom_77b R Q x1 x2 u) (fun y1 y2 w => y1 = x1 ∧ LPost v w) (fun _ y2 _ => y2.toNat) ?_ ⟨rfl, LPost.rf h⟩
      intro y1 y2 w hI R2 ih2
      obtain ⟨rfl, p3⟩ := hI
      unfold w_tellAtom_77b
      refine br_i (fun _ => hq w p3) fun hf => ?_
      have e1 : w.2.1 1 y1 = v.2.1 1 y1 := by rw [(p3.tab 1 (by decide)).2]
      refine s_value k0 (by omega) (by rw [e1]; exact hv.1) (by rw [e1]; exact hv.2.2.1) fun _ => ⟨by omega, by decide, ?_⟩
      have b1 := Int.tmod_lt_of_pos (Int.tdiv (w.2.2 (w.2.1 1 y1)) y2) (b := 10) (by decide)
      have b2 := Int.lt_tmod_of_pos (Int.tdiv (w.2.2 (w.2.1 1 y1)) y2) (b := 10) (by decide)
      refine rd_i fun _ => ?_
      rw [wl2i_eq ⟨by omega, by omega⟩]
      refine ov_i (by omega) (by omega) (g_tellLetter p3.1 fun z hz _ => ⟨by decide, ih2 _ _ _ ⟨rfl, p3.tr hz⟩ ?_⟩)
      have e2 : Int.tdiv y2 10 = y2 / 10 := Int.tdiv_eq_ediv_of_nonneg (by omega)
      rw [e2]
      omega
    · have e2 : Int.tdiv (v.2.2 (v.2.1 1 x1)) x2 = (v.2.2 (v.2.1 1 x1)) / x2 := Int.tdiv_eq_ediv_of_nonneg hv.2.2.2.1
      rw [e2] at he
      have h10 : 10 * x2 ≤ v.2.2 (v.2.1 1 x1) := (Int.le_ediv_iff_mul_le p1).mp (by omega)
      refine ol_i (by omega) (by omega) (ih _ _ _ ⟨rfl, rfl, by omega, by omega⟩ (by omega))
  · have hd : u.2.1 0 k = -2 := by
      have : ¬ (u.2.1 0 k ≠ -2) := fun z => hc (hr.mpr z)
      omega
    have hv := hT.sym k0 k1 hd
    unfold w_tellAtom_10
    refine lf2 (B := fun R x1 x2 u => w_tellAtom_10b R Q x1 x2 u) (fun y1 y2 w => y1 = k ∧ 0 ≤ y2 ∧ y2 ≤ 12 ∧ LPost u w) (fun _ y2 _ => (12 - y2).toNat) ?_ ⟨rfl, by decide, by decide, LPost.rf h⟩
    intro y1 y2 w hI R ih
    obtain ⟨rfl, p1, p2, p3⟩ := hI
    have e1 : w.2.1 1 y1 = u.2.1 1 y1 := by rw [(p3.tab 1 (by decide)).2]
    have e10 : w.2.1 10 = u.2.1 10 := (p3.tab 10 (by decide)).2
    unfold w_tellAtom_10b
    rw [e1, e10]
    refine bd_i k0 (by omega) (rd_i fun _ => bd_i hv.1 hv.2.2.1 (rd_i fun _ => br_i (fun _ => hq w p3) fun hf => ?_))
    refine bd_i k0 (by omega) (rd_i fun _ => ov_i (by omega) (by omega) (ov_i (by omega) (by omega) (bd_i (by omega) (by omega) (rd_i fun _ => g_tellLetter p3.1 fun z hz _ => ov_i (by omega) (by omega) (ih _ _ _ ⟨rfl, by omega, by omega, p3.tr hz⟩ (by omega))))))
def fO (k : Nat) : Bool := (decide (15 ≤ k) && decide (k ≤ 22) && decide (k ≠ 17) && decide (k ≠ 18))
theorem fL_O {u v : iST} (h : Fx fL u v) : Fx fO u v := h.mono (fun k hk => by simp [fO] at hk; simp [fL]; omega)
theorem s_isQuoted {k : Int} {Q : Int → iST → Prop} {u : iST} (hT : TI u) (k0 : 0 ≤ k) (k1 : k < u.1 8) (h : ∀ r, bz r → (r ≠ 0 ↔ 0 ≤ u.2.1 0 k ∧ u.2.1 0 k = 2 ∧ 0 ≤ u.2.1 0 (u.2.1 1 k) ∧ u.2.1 1 (u.2.1 1 k) = 0) → Q r u) : w_isQuoted k Q u := by
  have h8 := hT.2.1
  unfold w_isQuoted
  refine s_isPair k0 (by omega) fun r _ hr => br_i (fun hc => zt_0 (h 0 (Or.inl rfl) (by have := hr.mp hc; omega))) fun hc => ?_
  have hp : 0 ≤ u.2.1 0 k := by
    have : ¬ u.2.1 0 k < 0 := fun z => hc (hr.mpr z)
    omega
  have hp2 := hT.pair k0 k1 hp
  refine bd_i k0 (by omega) (rd_i fun _ => br_i (fun hd => zt_0 (h 0 (Or.inl rfl) (by omega))) fun hd => bd_i k0 (by omega) (rd_i fun _ => ?_))
  refine s_isPair hp2.2.1 (by omega) fun r2 _ hr2 => br_i (fun he => zt_0 (h 0 (Or.inl rfl) (by have := hr2.mp he; omega))) fun he => ?_
  have hp3 : 0 ≤ u.2.1 0 (u.2.1 1 k) := by
    have : ¬ u.2.1 0 (u.2.1 1 k) < 0 := fun z => he (hr2.mpr z)
    omega
  exact bd_i k0 (by omega) (rd_i fun _ => bd_i hp2.2.1 (by omega) (rd_i fun _ => br_i (fun hf => zt_0 (h 0 (Or.inl rfl) (by omega))) fun hf => zt_1 (h 1 (Or.inr rfl) (by omega))))
/-- the rows that telling may leave -/
def TPost (u v : iST) : Prop := OI v ∧ Fx fO u v ∧ v.2.2 = u.2.2 ∧ rem v ≤ rem u
theorem TPost.tab {u v : iST} (h : TPost u v) : ∀ k, k ≤ 11 → v.1 k = u.1 k ∧ v.2.1 k = u.2.1 k := fun k hk => h.2.1 k (by simp [fO]; omega)
theorem g_tellObject {o : Int} {Q : iST → Prop} {u : iST} (hT : TI u) (h : OI u) (o0 : 0 ≤ o) (o1 : o < u.1 8) (hq : ∀ v, TPost u v → Q v) : w_tellObject o Q u := by
  have h8 := hT.2.1
  have hrr := rem_r h
  have kLater : ∀ {c : Int} {K : iST → Prop} {w : iST}, 0 ≤ w.1 20 → w.1 20 < 4000 → K (iI (iA w 19 (w.1 20) c) 20 (w.1 20 + 1)) → w_later c K w := by
    intro c K w h0 h1 hK
    unfold w_later
    exact rd_i fun _ => bd_i h0 h1 (sw_i (rd_i fun _ => ov_i (show -2147483648 ≤ w.1 20 + 1 by omega) (show w.1 20 + 1 < 2147483648 by omega) (sw_i hK)))
  unfold w_tellObject
  refine sw_i (ov_i (by omega) (by omega) (kLater (Int.le_refl _) (show (0 : Int) < 4000 by decide) ?_))
  unfold w_tellObject_12
  refine lf0 (B := fun R u => w_tellObject_12b R Q u) (fun v => TPost u v ∧ 0 ≤ v.1 20 ∧ v.1 20 ≤ 1 + (rem u - rem v) ∧ ∀ j, 0 ≤ j → j < v.1 20 → 0 ≤ v.2.1 19 j ∧ v.2.1 19 j < 2 * u.1 8) (fun v => (3 * rem v + v.1 20).toNat) ?_ ⟨⟨h, ((Fx_I (k := 20) rfl).tr (Fx_A (k := 19) rfl)).tr (Fx_I (k := 20) rfl), rfl, Int.le_refl _⟩, show (0 : Int) ≤ 0 + 1 by decide, ?_, ?_⟩
  · intro v hI R ih
    obtain ⟨p1, p2, p3, p4⟩ := hI
    have hTv : TI v := TI_eq hT p1.tab p1.2.2.1
    have e8 : v.1 8 = u.1 8 := (p1.tab 8 (by decide)).1
    have hrv := rem_r p1.1
    have go : ∀ w : iST, OI w → Fx fO u w → w.2.2 = u.2.2 → rem w < rem v → 0 ≤ w.1 20 → w.1 20 ≤ v.1 20 + 1 → (∀ j, 0 ≤ j → j < w.1 20 → 0 ≤ w.2.1 19 j ∧ w.2.1 19 j < 2 * u.1 8) → R w := fun w a1 a2 a3 a4 a5 a6 a7 => ih w ⟨⟨a1, a2, a3, by have := p1.2.2.2; omega⟩, a5, by omega, a7⟩ (by have := rem_r a1; omega)
    unfold w_tellObject_12b
    refine rd_i fun _ => br_i (fun _ => hq v p1) fun hc => s_isFull p1.1 fun r _ hr => br_i (fun _ => hq v p1) fun hd => ?_
    have hrem := hr (by omega)
    have hx := p4 (v.1 20 - 1) (by omega) (by omega)
    generalize hcd : v.2.1 19 (v.1 20 - 1) = cd at hx
    have ed : Int.tdiv cd 2 = cd / 2 := Int.tdiv_eq_ediv_of_nonneg hx.1
    refine rd_i fun _ => ov_i (by omega) (by omega) (sw_i (rd_i fun _ => bd_i (show 0 ≤ v.1 20 - 1 by omega) (show v.1 20 - 1 < 4000 by omega) ?_))
    show rd (v.2.1 19 (v.1 20 - 1)) _
    rw [hcd]
    refine rd_i fun _ => ⟨by decide, by decide, ?_⟩
    rw [ed]
    generalize hkk : cd / 2 = k
    have k0 : 0 ≤ k := by omega
    have k1 : k < u.1 8 := by omega
    generalize hww : iI v 20 (v.1 20 - 1) = w
    have w1 : OI w := by rw [← hww]; exact p1.1
    have w2 : Fx fO u w := by rw [← hww]; exact p1.2.1.tr (Fx_I (k := 20) rfl)
    have w3 : w.2.2 = u.2.2 := by rw [← hww]; exact p1.2.2.1
    have w4 : rem w = rem v := by rw [← hww]; rfl
    have w5 : w.1 20 = v.1 20 - 1 := by rw [← hww]; rfl
    have w6 : ∀ j, 0 ≤ j → j < w.1 20 → 0 ≤ w.2.1 19 j ∧ w.2.1 19 j < 2 * u.1 8 := by rw [w5, ← hww]; exact fun j j0 j1 => p4 j j0 (by omega)
    have wT : TI w := by rw [← hww]; exact hTv
    have wt : ∀ k, k ≤ 11 → w.1 k = u.1 k ∧ w.2.1 k = u.2.1 k := fun k hk => w2 k (by simp [fO]; omega)
    have w8 : w.1 8 = u.1 8 := (wt 8 (by decide)).1
    clear hww hcd hr
    have goL : ∀ z, LPost w z → rem z < rem w → R z := fun z hz hlt => go z hz.1 (w2.tr (fL_O hz.2.1)) (hz.2.2.1.trans w3) (by omega) (by rw [fx_s hz.2.1 20 rfl]; omega) (by rw [fx_s hz.2.1 20 rfl]; omega) (by rw [fx_s hz.2.1 20 rfl, fx_a hz.2.1 19 rfl]; exact w6)
    have two : ∀ z, LPost w z → rem z < rem w → ∀ a b, 0 ≤ a → a < 2 * u.1 8 → 0 ≤ b → b < 2 * u.1 8 → R (iI (iA (iI (iA z 19 (z.1 20) a) 20 (z.1 20 + 1)) 19 (z.1 20 + 1) b) 20 (z.1 20 + 1 + 1)) := by
      intro z hz hlt a b a0 a1 b0 b1
      have z20 : z.1 20 = w.1 20 := fx_s hz.2.1 20 rfl
      have z19 : z.2.1 19 = w.2.1 19 := fx_a hz.2.1 19 rfl
      refine go _ hz.1 ((w2.tr (fL_O hz.2.1)).tr ((((Fx_A (k := 19) rfl).tr (Fx_I (k := 20) rfl)).tr (Fx_A (k := 19) rfl)).tr (Fx_I (k := 20) rfl))) (hz.2.2.1.trans w3) (show rem z < rem v by omega) (show 0 ≤ z.1 20 + 1 + 1 by omega) (show z.1 20 + 1 + 1 ≤ v.1 20 + 1 by omega) (fun j j0 j1 => ?_)
      have j1 : j < z.1 20 + 1 + 1 := j1
      show 0 ≤ (if j = z.1 20 + 1 then b else if j = z.1 20 then a else z.2.1 19 j) ∧ (if j = z.1 20 + 1 then b else if j = z.1 20 then a else z.2.1 19 j) < 2 * u.1 8
      split
      · exact ⟨b0, b1⟩
      · split
        · exact ⟨a0, a1⟩
        · rw [z19]; exact w6 j j0 (by omega)
    refine br_i (fun hodd => br_i (fun hk0 => ?_) (fun hk0 => ?_)) (fun hev => ?_)
    · refine s_isPair k0 (by omega) fun r2 _ hr2 => br_i (fun he => ?_) (fun he => ?_)
      · have hkn : w.2.1 0 k < 0 := hr2.mp he
        refine g_tellLetter w1 fun z1 a1 b1 => g_tellLetter a1.1 fun z2 a2 _ => g_tellLetter a2.1 fun z3 a3 _ => ?_
        have a13 : LPost w z3 := (a1.tr a2).tr a3
        refine g_tellAtom (a13.ti wT) a3.1 k0 (by rw [(a13.tab 8 (by decide)).1]; omega) (by rw [(a13.tab 0 (by decide)).2]; exact hkn) fun z4 a4 => g_tellLetter a4.1 fun z5 a5 _ => ?_
        refine goL z5 ((a13.tr a4).tr a5) ?_
        have := b1 (by omega); have := a2.2.2.2; have := a3.2.2.2; have := a4.2.2.2; have := a5.2.2.2
        omega
      · have hkp : 0 ≤ w.2.1 0 k := by
          have : ¬ w.2.1 0 k < 0 := fun z => he (hr2.mpr z)
          omega
        have hpr := wT.pair k0 (by omega) hkp
        refine g_tellLetter w1 fun z1 a1 b1 => ?_
        rw [(a1.tab 1 (by decide)).2]
        refine bd_i k0 (by omega) (rd_i fun _ => ov_i (by omega) (by omega) (ov_i (by omega) (by omega) ?_))
        have t2 := two z1 a1 (b1 (by omega)) (2 * w.2.1 1 k + 1) (2 * w.2.1 0 k) (by omega) (by omega) (by omega) (by omega)
        have z20 : z1.1 20 = w.1 20 := fx_s a1.2.1 20 rfl
        refine kLater (by omega) (by omega) ?_
        show bd k 452000 (rd (z1.2.1 0 k) _)
        rw [(a1.tab 0 (by decide)).2]
        exact bd_i k0 (by omega) (rd_i fun _ => ov_i (by omega) (by omega) (kLater (show 0 ≤ z1.1 20 + 1 by omega) (show z1.1 20 + 1 < 4000 by omega) t2))
    · exact g_tellLetter w1 fun z1 a1 b1 => goL z1 a1 (b1 (by omega))
    · refine s_isPair k0 (by omega) fun r2 _ hr2 => br_i (fun he => ?_) (fun he => ?_)
      · have hkp : 0 ≤ w.2.1 0 k := by
          have : ¬ w.2.1 0 k < 0 := fun z => he (hr2.mpr z)
          omega
        have hpr := wT.pair k0 (by omega) hkp
        refine s_isQuoted wT k0 (by omega) fun r3 _ hr3 => br_i (fun hf => ?_) (fun hf => ?_)
        · refine g_tellLetter w1 fun z1 a1 b1 => ?_
          rw [(a1.tab 1 (by decide)).2]
          refine bd_i k0 (by omega) (rd_i fun _ => ov_i (by omega) (by omega) (ov_i (by omega) (by omega) ?_))
          have t2 := two z1 a1 (b1 (by omega)) (2 * w.2.1 1 k + 1) (2 * w.2.1 0 k) (by omega) (by omega) (by omega) (by omega)
          have z20 : z1.1 20 = w.1 20 := fx_s a1.2.1 20 rfl
          refine kLater (by omega) (by omega) ?_
          show bd k 452000 (rd (z1.2.1 0 k) _)
          rw [(a1.tab 0 (by decide)).2]
          exact bd_i k0 (by omega) (rd_i fun _ => ov_i (by omega) (by omega) (kLater (show 0 ≤ z1.1 20 + 1 by omega) (show z1.1 20 + 1 < 4000 by omega) t2))
        · obtain ⟨q1, q2, q3, q4⟩ := hr3.mp hf
          have hpr2 := wT.pair hpr.2.1 (by omega) q3
          refine g_tellLetter w1 fun z1 a1 b1 => ?_
          rw [(a1.tab 1 (by decide)).2, (a1.tab 0 (by decide)).2]
          refine bd_i k0 (by omega) (rd_i fun _ => bd_i hpr.2.1 (by omega) (rd_i fun _ => ov_i (by omega) (by omega) ?_))
          have z20 : z1.1 20 = w.1 20 := fx_s a1.2.1 20 rfl
          have z19 : z1.2.1 19 = w.2.1 19 := fx_a a1.2.1 19 rfl
          refine kLater (by omega) (by omega) ?_
          refine go _ a1.1 ((w2.tr (fL_O a1.2.1)).tr ((Fx_A (k := 19) rfl).tr (Fx_I (k := 20) rfl))) (a1.2.2.1.trans w3) (show rem z1 < rem v by have := b1 (by omega); omega) (show 0 ≤ z1.1 20 + 1 by omega) (show z1.1 20 + 1 ≤ v.1 20 + 1 by omega) (fun j j0 j1 => ?_)
          have j1 : j < z1.1 20 + 1 := j1
          show 0 ≤ (if j = z1.1 20 then _ else z1.2.1 19 j) ∧ (if j = z1.1 20 then _ else z1.2.1 19 j) < 2 * u.1 8
          split
          · omega
          · rw [z19]; exact w6 j j0 (by omega)
      · have hkn : w.2.1 0 k < 0 := hr2.mp (by omega)
        refine g_tellAtom wT w1 k0 (by omega) hkn fun z a => ?_
        refine ih z ⟨⟨a.1, w2.tr (fL_O a.2.1), a.2.2.1.trans w3, by have := a.2.2.2; have := p1.2.2.2; omega⟩, by rw [fx_s a.2.1 20 rfl]; omega, by rw [fx_s a.2.1 20 rfl]; have := a.2.2.2; omega, by rw [fx_s a.2.1 20 rfl, fx_a a.2.1 19 rfl]; exact w6⟩ ?_
        rw [fx_s a.2.1 20 rfl]
        have := a.2.2.2
        have := rem_r a.1
        omega
  · show (0 : Int) + 1 ≤ 1 + (rem u - rem u)
    omega
  · intro j j0 j1
    have j1 : j < 0 + 1 := j1
    show 0 ≤ (if j = 0 then 2 * o else u.2.1 19 j) ∧ (if j = 0 then 2 * o else u.2.1 19 j) < 2 * u.1 8
    rw [if_pos (by omega)]
    omega
