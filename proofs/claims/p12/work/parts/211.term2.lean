/-! questions about terms; calls are made -/
theorem s_isVariable {k : Int} {Q : Int → iST → Prop} {u : iST} (k0 : 0 ≤ k) (k1 : k < 452000) (h : ∀ r, bz r → (r ≠ 0 ↔ u.2.1 0 k = -2 ∧ k ≠ 0 ∧ k ≠ 1) → Q r u) : w_isVariable k Q u := by
  unfold w_isVariable
  refine s_isSymbol k0 k1 fun r _ hr => br_i (fun hc => zt_0 (h 0 (Or.inl rfl) (by have := hr.mp hc; omega))) fun hc => br_i (fun hd => zt_0 (h 0 (Or.inl rfl) (by omega))) fun hd => br_i (fun he => zt_0 (h 0 (Or.inl rfl) (by omega))) fun he => zt_1 (h 1 (Or.inr rfl) ?_)
  have : ¬ (u.2.1 0 k ≠ -2) := fun z => hc (hr.mpr z)
  omega
theorem s_isCall {k : Int} {Q : Int → iST → Prop} {u : iST} (k0 : 0 ≤ k) (k1 : k < 452000) (h : ∀ r, bz r → (r ≠ 0 ↔ 0 ≤ u.2.1 0 k ∧ u.2.1 0 k ≠ 2) → Q r u) : w_isCall k Q u := by
  unfold w_isCall
  refine s_isPair k0 k1 fun r _ hr => br_i (fun hc => zt_0 (h 0 (Or.inl rfl) (by have := hr.mp hc; omega))) fun hc => bd_i k0 k1 (rd_i fun _ => br_i (fun hd => zt_0 (h 0 (Or.inl rfl) (by omega))) fun hd => zt_1 (h 1 (Or.inr rfl) ?_))
  have : ¬ (u.2.1 0 k < 0) := fun z => hc (hr.mpr z)
  omega
theorem s_isCallOf {k f : Int} {Q : Int → iST → Prop} {u : iST} (k0 : 0 ≤ k) (k1 : k < 452000) (h : ∀ r, bz r → (r ≠ 0 ↔ 0 ≤ u.2.1 0 k ∧ u.2.1 0 k = f) → Q r u) : w_isCallOf k f Q u := by
  unfold w_isCallOf
  refine s_isPair k0 k1 fun r _ hr => br_i (fun hc => zt_0 (h 0 (Or.inl rfl) (by have := hr.mp hc; omega))) fun hc => bd_i k0 k1 (rd_i fun _ => br_i (fun hd => zt_0 (h 0 (Or.inl rfl) (by omega))) fun hd => zt_1 (h 1 (Or.inr rfl) ?_))
  have : ¬ (u.2.1 0 k < 0) := fun z => hc (hr.mpr z)
  omega
/-- natural, nil, t, or quoted -/
def Cst (u : iST) (k : Int) : Prop := u.2.1 0 k = -1 ∨ k = 0 ∨ k = 1 ∨ Quo u k
theorem s_isConstant {k : Int} {Q : Int → iST → Prop} {u : iST} (hT : TI u) (k0 : 0 ≤ k) (k1 : k < u.1 8) (h : ∀ r, bz r → (r ≠ 0 ↔ Cst u k) → Q r u) : w_isConstant k Q u := by
  have h8 := hT.2.1
  unfold w_isConstant
  refine s_isNatural k0 (by omega) fun r _ hr => br_i (fun hc => zt_1 (h 1 (Or.inr rfl) ⟨fun _ => Or.inl ?_, fun _ => by decide⟩)) fun hc => br_i (fun hd => zt_1 (h 1 (Or.inr rfl) ⟨fun _ => Or.inr (Or.inl hd), fun _ => by decide⟩)) fun hd => br_i (fun he => zt_1 (h 1 (Or.inr rfl) ⟨fun _ => Or.inr (Or.inr (Or.inl he)), fun _ => by decide⟩)) fun he => ?_
  · have : ¬ (u.2.1 0 k ≠ -1) := fun z => hc (hr.mpr z)
    omega
  · have hn := hr.mp (by omega)
    refine s_isQuoted hT k0 k1 fun r2 _ hr2 => br_i (fun hf => zt_0 (h 0 (Or.inl rfl) ⟨fun z => absurd rfl z, fun z => ?_⟩)) fun hf => zt_1 (h 1 (Or.inr rfl) ⟨fun _ => Or.inr (Or.inr (Or.inr (hr2.mp hf))), fun _ => by decide⟩)
    rcases z with z | z | z | z
    · exact absurd z hn
    · exact absurd z hd
    · exact absurd z he
    · exact absurd hf (hr2.mpr z)
theorem s_sizeOf {k : Int} {Q : Int → iST → Prop} {u : iST} (k0 : 0 ≤ k) (k1 : k < 452000) (h : inR (sz u k) → Q (sz u k) u) : w_sizeOf k Q u := by
  unfold w_sizeOf
  unfold sz at h
  refine s_isCall k0 k1 fun r _ hr => br_i (fun hc => ?_) (fun hc => bd_i k0 k1 (rd_i fun hh => ?_))
  · rw [if_neg (fun z => hr.mpr z hc)] at h
    exact h (by decide)
  · rw [if_pos (hr.mp hc)] at h
    exact h hh
theorem g_constantOf {k : Int} {Q : Int → iST → Prop} {u : iST} (hT : TI u) (hn : u.1 8 < 451999) (k0 : 0 ≤ k) (k1 : k < u.1 8) (hq : ∀ t v, Grow u v 2 0 → 0 ≤ t → t < v.1 8 → Cst v t → (t < u.1 8 → v = u) → Q t v) : w_constantOf k Q u := by
  have h8 := hT.1
  unfold w_constantOf
  have same : Cst u k → Q k u := fun hc => hq k u ((Grow.rf hT).mono (by omega) (by omega)) k0 k1 hc (fun _ => rfl)
  refine s_isNatural k0 (by omega) fun r _ hr => br_i (fun hc => same (Or.inl ?_)) fun hc => br_i (fun hd => same (Or.inr (Or.inl hd))) fun hd => br_i (fun he => ?_) (fun he => same (Or.inr (Or.inr (Or.inl (by omega)))))
  · have : ¬ (u.2.1 0 k ≠ -1) := fun z => hc (hr.mpr z)
    omega
  · refine g_list2 hT hn (by decide) (by omega) k0 k1 fun t v hg t0 t1 a1 a2 a3 a4 a5 => ?_
    refine hq t v hg t0 t1 (Or.inr (Or.inr (Or.inr ⟨by omega, a1, by omega, a4⟩))) (fun ht => ?_)
    have ex := hg.2.1.2.1 t t0 ht
    rw [ex.1] at a1
    have hp := hT.pair t0 ht (by omega)
    have ex2 := hg.2.1.2.1 _ hp.2.1 (show u.2.1 1 t < u.1 8 by omega)
    rw [ex.2.1, ex2.1] at a3
    rw [ex.2.1, ex2.2.1] at a4
    exact (a5 t t0 ht a1 hp.2.1 (by omega) a3 a4).1
theorem s_valueOf {k : Int} {Q : Int → iST → Prop} {u : iST} (hT : TI u) (k0 : 0 ≤ k) (k1 : k < u.1 8) (hc : Cst u k) (h : ∀ r, 0 ≤ r → r < u.1 8 → Q r u) : w_valueOf k Q u := by
  have h8 := hT.2.1
  unfold w_valueOf
  refine s_isPair k0 (by omega) fun r _ hr => br_i (fun _ => h k k0 k1) fun hd => ?_
  have hp : 0 ≤ u.2.1 0 k := by
    have : ¬ (u.2.1 0 k < 0) := fun z => hd (hr.mpr z)
    omega
  have hq : Quo u k := by
    rcases hc with z | z | z | z
    · omega
    · have := hT.2.2.2.2.2.2.2.2.1 0 (by decide) (by decide); rw [z] at hp; omega
    · have := hT.2.2.2.2.2.2.2.2.1 1 (by decide) (by decide); rw [z] at hp; omega
    · exact z
  have p1 := hT.pair k0 k1 hp
  have p2 := hT.pair p1.2.1 (by omega) hq.2.2.1
  exact bd_i k0 (by omega) (rd_i fun _ => bd_i p1.2.1 (by omega) (rd_i fun _ => h _ hq.2.2.1 (by omega)))
theorem IsT.cst {u : iST} {k : Int} (k0 : 0 ≤ k) (k1 : k < u.1 8) (hT : TI u) (h : Cst u k) : IsT u k := by
  refine IsT.mk ⟨k0, k1, ?_⟩
  rcases h with z | z | z | z
  · exact Or.inl (by omega)
  · have := hT.2.2.2.2.2.2.2.2.1 0 (by decide) (by decide); exact Or.inl (by rw [z]; omega)
  · have := hT.2.2.2.2.2.2.2.2.1 1 (by decide) (by decide); exact Or.inl (by rw [z]; omega)
  · exact Or.inr (Or.inl z)
theorem s_functionOf {f : Int} {Q : Int → iST → Prop} {u : iST} (hd0 : 0 ≤ u.1 35) (hd1 : u.1 35 ≤ 40) (h : ∀ r, FnOf u f r → Q r u) : w_functionOf f Q u := by
  have key : ¬ (3 ≤ f ∧ f ≤ 16) → w_functionOf_13 Q f u := by
    intro hb
    unfold w_functionOf_13
    refine rd_i fun _ => br_i (fun hc => ?_) (fun hc => h 99 (Or.inr (Or.inl ⟨hb, by omega, rfl⟩)))
    unfold w_functionOf_26
    refine lf2 (B := fun R x1 x2 u => w_functionOf_26b R Q x1 x2 u) (fun x1 x2 v => v = u ∧ x1 = f ∧ 0 ≤ x2 ∧ x2 ≤ u.1 35 ∧ ∀ e, 0 ≤ e → e < x2 → u.2.1 36 e ≠ f) (fun _ x2 _ => (u.1 35 - x2).toNat) ?_ ⟨rfl, rfl, Int.le_refl _, hd0, fun e e0 e1 => by omega⟩
    intro x1 x2 v hI R ih
    obtain ⟨rfl, rfl, p1, p2, p3⟩ := hI
    unfold w_functionOf_26b
    refine rd_i fun _ => br_i (fun hd => h (-1) (Or.inr (Or.inr (Or.inr ⟨hb, hc, fun e e0 e1 => p3 e e0 (by omega), rfl⟩)))) fun hd => bd_i p1 (by omega) (rd_i fun _ => br_i (fun he => ov_i (by omega) (by omega) (ih _ _ _ ⟨rfl, rfl, by omega, by omega, fun e e0 e1 => ?_⟩ (by omega))) fun he => ov_i (by omega) (by omega) (h _ (Or.inr (Or.inr (Or.inl ⟨hb, hc, x2, p1, by omega, by omega, p3, rfl⟩)))))
    by_cases e2 : e = x2
    · subst e2; exact he
    · exact p3 e e0 (by omega)
  unfold w_functionOf
  exact br_i (fun hc => key (by omega)) fun hc => br_i (fun hd => key (by omega)) fun hd => h f (Or.inl ⟨by omega, by omega, rfl⟩)
/-- the definitions' names and numbers of parameters -/
def DI (u : iST) : Prop := 0 ≤ u.1 35 ∧ u.1 35 ≤ 40 ∧ (∀ d, 0 ≤ d → d < u.1 35 → 0 ≤ u.2.1 37 d ∧ u.2.1 37 d ≤ 6 ∧ 16 < u.2.1 36 d ∧ u.2.1 36 d < u.1 8 ∧ u.2.1 0 (u.2.1 36 d) = -2) ∧ (u.1 57 ≠ -1 → 16 < u.1 57 ∧ u.1 57 < u.1 8 ∧ u.2.1 0 (u.1 57) = -2 ∧ 0 ≤ u.1 58 ∧ u.1 58 ≤ 6)
theorem FnOf.r {u : iST} (h : DI u) {f r : Int} (hf : FnOf u f r) (f0 : 0 ≤ f) : (r = -1 ∨ (3 ≤ r ∧ r ≤ 16 ∧ f = r) ∨ (r = 99 ∧ 16 < f ∧ f < u.1 8 ∧ u.2.1 0 f = -2) ∨ (100 ≤ r ∧ r < 100 + u.1 35 ∧ u.2.1 36 (r - 100) = f ∧ 16 < f ∧ f < u.1 8 ∧ u.2.1 0 f = -2)) := by
  obtain ⟨h1, h2, h3, h4⟩ := h
  rcases hf with ⟨a, b, c⟩ | ⟨a, b, c⟩ | ⟨a, b, d, d0, d1, d2, d3, d4⟩ | ⟨a, b, c, d⟩
  · omega
  · have := h4 (by omega)
    rw [← b] at this
    omega
  · have := h3 d d0 d1
    rw [d2] at this
    refine Or.inr (Or.inr (Or.inr ⟨by omega, by omega, by rw [d4, show 100 + d - 100 = d from by omega]; exact d2, this.2.2.1, this.2.2.2.1, this.2.2.2.2⟩))
  · exact Or.inl d
theorem s_manyOf {f r : Int} {Q : Int → iST → Prop} {u : iST} (h : DI u) (hf : FnOf u f r) (f0 : 0 ≤ f) (hr : r ≠ -1) (hq : ∀ n : Nat, n ≤ 6 → Ar u f n → Q n u) : w_manyOf r Q u := by
  have hm : ∀ n : Nat, Many u r = n → n ≤ 6 → Q n u := fun n e hn => hq n hn ⟨r, hf, hr, e⟩
  have hr2 := hf.r h f0
  obtain ⟨h1, h2, h3, h4⟩ := h
  have hneg : ¬ r < 0 := by omega
  unfold w_manyOf
  refine br_i (fun hc => br_i (fun hd => br_i (fun he => br_i (fun hg => ov_i (by omega) (by omega) (bd_i (by omega) (by omega) (rd_i fun _ => ?_))) (fun hg => rd_i fun _ => ?_)) (fun he => ?_)) (fun hd => ?_)) (fun hc => ?_)
  · have h5 := h3 (r - 100) (by omega) (by omega)
    have := hm (u.2.1 37 (r - 100)).toNat (by unfold Many; rw [if_neg hc, if_neg (by omega), if_neg (by omega), if_neg hg, Int.toNat_of_nonneg h5.1]) (by omega)
    rw [Int.toNat_of_nonneg h5.1] at this
    exact this
  · have hg : r = 99 := by omega
    have h58 : 0 ≤ u.1 58 ∧ u.1 58 ≤ 6 := by
      rcases hf with ⟨a, b, c⟩ | ⟨a, b, c⟩ | ⟨a, b, d, d0, d1, d2, d3, d4⟩ | ⟨a, b, c, d⟩
      · omega
      · exact (h4 (by omega)).2.2.2
      · omega
      · omega
    have := hm (u.1 58).toNat (by unfold Many; rw [if_neg hc, if_neg (by omega), if_neg (by omega), if_pos hg, Int.toNat_of_nonneg h58.1]) (by omega)
    rw [Int.toNat_of_nonneg h58.1] at this
    exact this
  · exact hm 1 (by unfold Many; rw [if_neg hc, if_neg (by omega), if_pos (by omega)]; rfl) (by decide)
  · exact hm 2 (by unfold Many; rw [if_neg hc, if_pos (by omega)]; rfl) (by decide)
  · exact hm 3 (by unfold Many; rw [if_pos (by omega)]; rfl) (by decide)
theorem Ar.r {u : iST} (h : DI u) {f : Int} {n : Nat} (ha : Ar u f n) (f0 : 0 ≤ f) : 3 ≤ f ∧ (f ≤ 16 ∨ (16 < f ∧ f < u.1 8 ∧ u.2.1 0 f = -2)) := by
  obtain ⟨r, h1, h2, h3⟩ := ha
  have := h1.r h f0
  omega
theorem s_fail {x : Int} {Q : iST → Prop} {u : iST} (h : ∀ v, (v = u ∨ v = iI u 61 x) → (u.1 61 = 0 → v.1 61 = x) → (u.1 61 ≠ 0 → v = u) → Q v) : w_fail x Q u := by
  unfold w_fail
  exact rd_i fun _ => br_i (fun hc => h u (Or.inl rfl) (fun z => absurd z hc) (fun _ => rfl)) fun hc => sw_i (h _ (Or.inr rfl) (fun _ => rfl) (fun z => absurd (by omega) z))
