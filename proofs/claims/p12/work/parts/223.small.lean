/-! small terms; what rewriting needs and leaves -/
def TJ (u : iST) (t : Int) : Prop := IsT u t ∧ sz u t ≤ 120
theorem TJ.ext {u v : iST} (hT : TI u) (h : ExtT u v) {x : Int} (hx : TJ u x) : TJ v x := ⟨hx.1.ext hT h, by rw [h.szx hx.1]; exact hx.2⟩
theorem AllE_of {u : iST} {P : Int → Prop} : ∀ {n : Nat} {l : Int}, (∀ i, i < n → P (el u l i)) → AllE u P l n
  | 0, _, _ => trivial
  | n + 1, l, h => ⟨h 0 (by omega), AllE_of (fun i hi => h (i + 1) (by omega))⟩
theorem TJ.args {u : iST} (hT : TI u) {o : Int} (h : TJ u o) (hc : 0 ≤ u.2.1 0 o ∧ u.2.1 0 o ≠ 2) : ∃ n : Nat, n ≤ 6 ∧ Ar u (u.2.1 0 o) n ∧ IsL u (u.2.1 1 o) n ∧ AllE u (TJ u) (u.2.1 1 o) n := by
  obtain ⟨n, a, b, c, d, e⟩ := h.1.call hT hc h.2
  refine ⟨n, a, b, c, AllE_of fun i hi => ⟨d.el i hi, ?_⟩⟩
  have := sz_arg hT d i hi
  have := h.2
  omega
theorem TJ.cst {u : iST} {k : Int} (k0 : 0 ≤ k) (k1 : k < u.1 8) (hT : TI u) (h : Cst u k) : TJ u k := by
  refine ⟨IsT.cst k0 k1 hT h, ?_⟩
  unfold sz
  rw [if_neg]
  · decide
  · rcases h with z | z | z | z
    · omega
    · have := hT.2.2.2.2.2.2.2.2.1 0 (by decide) (by decide); rw [z]; omega
    · have := hT.2.2.2.2.2.2.2.2.1 1 (by decide) (by decide); rw [z]; omega
    · have := z.2.1; omega
theorem TJ.c0 {u : iST} (hT : TI u) : TJ u 0 := TJ.cst (Int.le_refl _) (by have := hT.1; omega) hT (Or.inr (Or.inl rfl))
theorem TJ.c1 {u : iST} (hT : TI u) : TJ u 1 := TJ.cst (by decide) (by have := hT.1; omega) hT (Or.inr (Or.inr (Or.inl rfl)))
theorem t_base {o i : Int} {Q : Int → iST → Prop} {u : iST} (hT : TI u) (ho : TJ u o) (h0 : 3 ≤ u.2.1 0 o) (h1 : u.2.1 0 o ≤ 16) (hi : i = 1 ∨ (i = 2 ∧ u.2.1 0 o ≤ 9) ∨ (i = 3 ∧ u.2.1 0 o = 3)) (hq : ∀ t, TJ u t → Q t u) : w_term o i Q u := by
  obtain ⟨n, a, b, c, d⟩ := ho.args hT ⟨by omega, by omega⟩
  have hr := ho.1.r
  have hn : (n = 3 ∧ u.2.1 0 o = 3) ∨ (n = 2 ∧ 4 ≤ u.2.1 0 o ∧ u.2.1 0 o ≤ 9) ∨ (n = 1 ∧ 10 ≤ u.2.1 0 o) := by
    rcases (show u.2.1 0 o = 3 ∨ (4 ≤ u.2.1 0 o ∧ u.2.1 0 o ≤ 9) ∨ 10 ≤ u.2.1 0 o by omega) with z | z | z
    · exact Or.inl ⟨b.fun (Ar_base h0 h1 (Or.inl ⟨z, rfl⟩)), z⟩
    · exact Or.inr (Or.inl ⟨b.fun (Ar_base h0 h1 (Or.inr (Or.inl ⟨z.1, z.2, rfl⟩))), z⟩)
    · exact Or.inr (Or.inr ⟨b.fun (Ar_base h0 h1 (Or.inr (Or.inr ⟨z, rfl⟩))), z⟩)
  refine s_term hT hr.1 hr.2 (by omega) (by omega) (hq _ ?_)
  obtain ⟨j, hj⟩ : ∃ j : Nat, i = j + 1 := ⟨(i - 1).toNat, by omega⟩
  rw [show i.toNat = j + 1 from by omega]
  exact d.el j (by omega)
/-- the context -/
def CX (u : iST) : Prop := 0 ≤ u.1 109 ∧ u.1 109 ≤ 200 ∧ ∀ i, 0 ≤ i → i < u.1 109 → TJ u (u.2.1 108 i)
theorem s_isInContext {x : Int} {Q : Int → iST → Prop} {u : iST} (h : CX u) (hq : ∀ r, bz r → Q r u) : w_isInContext x Q u := by
  unfold w_isInContext w_isInContext_2
  refine lf2 (B := fun R x1 x2 u => w_isInContext_2b R Q x1 x2 u) (fun x1 x2 v => v = u ∧ 0 ≤ x2) (fun _ x2 _ => (200 - x2).toNat) ?_ ⟨rfl, Int.le_refl _⟩
  intro x1 x2 v hI R ih
  obtain ⟨rfl, p1⟩ := hI
  have := h.2.1
  unfold w_isInContext_2b
  exact rd_i fun _ => br_i (fun _ => zt_0 (hq 0 (Or.inl rfl))) fun hc => bd_i p1 (by omega) (rd_i fun _ => br_i (fun _ => ov_i (by omega) (by omega) (ih _ _ _ ⟨rfl, by omega⟩ (by omega))) fun _ => zt_1 (hq 1 (Or.inr rfl)))
theorem s_isDenied {x : Int} {Q : Int → iST → Prop} {u : iST} (hT : TI u) (h : CX u) (hq : ∀ r, bz r → Q r u) : w_isDenied x Q u := by
  have h8 := hT.2.1
  unfold w_isDenied w_isDenied_2
  refine lf2 (B := fun R x1 x2 u => w_isDenied_2b R Q x1 x2 u) (fun x1 x2 v => v = u ∧ 0 ≤ x2) (fun _ x2 _ => (200 - x2).toNat) ?_ ⟨rfl, Int.le_refl _⟩
  intro x1 x2 v hI R ih
  obtain ⟨rfl, p1⟩ := hI
  have hl := h.2.1
  unfold w_isDenied_2b
  refine rd_i fun _ => br_i (fun _ => zt_0 (hq 0 (Or.inl rfl))) fun hc => bd_i p1 (by omega) (rd_i fun _ => ?_)
  have ht := (h.2.2 x2 p1 (by omega)).1.r
  have hrr := hT.right_r ht.1 ht.2
  exact s_isCallOf ht.1 (by omega) fun r _ hr => br_i (fun _ => ov_i (by omega) (by omega) (ih _ _ _ ⟨rfl, by omega⟩ (by omega))) fun _ => bd_i p1 (by omega) (rd_i fun _ => bd_i ht.1 (by omega) (rd_i fun _ => bd_i hrr.1 (by omega) (rd_i fun _ => br_i (fun _ => ov_i (by omega) (by omega) (ih _ _ _ ⟨rfl, by omega⟩ (by omega))) fun _ => zt_1 (hq 1 (Or.inr rfl)))))
theorem s_isBoolean {x : Int} {Q : Int → iST → Prop} {u : iST} (x0 : 0 ≤ x) (x1 : x < 452000) (hq : ∀ r, bz r → Q r u) : w_isBoolean x Q u := by
  have y : zt 1 (Q 1 u) := zt_1 (hq 1 (Or.inr rfl))
  unfold w_isBoolean
  refine br_i (fun _ => y) fun _ => br_i (fun _ => y) fun _ => ?_
  refine s_isCallOf x0 x1 fun r _ _ => br_i (fun _ => y) fun _ => ?_
  refine s_isCallOf x0 x1 fun r _ _ => br_i (fun _ => y) fun _ => ?_
  refine s_isCallOf x0 x1 fun r _ _ => br_i (fun _ => y) fun _ => ?_
  refine s_isCallOf x0 x1 fun r _ _ => br_i (fun _ => y) fun _ => ?_
  refine s_isCallOf x0 x1 fun r _ _ => br_i (fun _ => y) fun _ => ?_
  refine s_isCallOf x0 x1 fun r _ _ => br_i (fun _ => y) fun _ => ?_
  exact s_isCallOf x0 x1 fun r _ _ => br_i (fun _ => zt_0 (hq 0 (Or.inl rfl))) fun _ => y
theorem s_lookedUp {o tr : Int} {Q : Int → iST → Prop} {u : iST} (hT : TI u) (h : CX u) (ho : TJ u o) (hq : ∀ r, TJ u r → Q r u) : w_lookedUp o tr Q u := by
  have h8 := hT.2.1
  have k34 : w_lookedUp_34 Q o 0 u := by
    unfold w_lookedUp_34
    refine lf2 (B := fun R x1 x3 u => w_lookedUp_34b R Q x1 x3 u) (fun x1 x3 v => v = u ∧ x1 = o ∧ 0 ≤ x3) (fun _ x3 _ => (200 - x3).toNat) ?_ ⟨rfl, rfl, Int.le_refl _⟩
    intro x1 x3 v hI R ih
    obtain ⟨rfl, rfl, p1⟩ := hI
    have hl := h.2.1
    unfold w_lookedUp_34b
    refine rd_i fun _ => br_i (fun _ => hq x1 ho) fun hc => bd_i p1 (by omega) (rd_i fun _ => ?_)
    have hx := h.2.2 x3 p1 (by omega)
    have next : ov (x3 + 1) (R x1 (x3 + 1) v) := ov_i (by omega) (by omega) (ih _ _ _ ⟨rfl, rfl, by omega⟩ (by omega))
    refine s_isCallOf hx.1.r.1 (by have := hx.1.r; omega) fun r _ hr => br_i (fun hz => ?_) (fun _ => next)
    have hf := hr.mp hz
    refine bd_i p1 (by omega) (rd_i fun _ => t_base hT hx (by omega) (by omega) (Or.inl rfl) fun a ha => bd_i p1 (by omega) (rd_i fun _ => t_base hT hx (by omega) (by omega) (Or.inr (Or.inl ⟨rfl, by omega⟩)) fun b hb => ?_))
    have k103 : w_lookedUp_103 R Q x1 x3 a b v := by
      unfold w_lookedUp_103
      exact br_i (fun _ => next) fun _ => s_isConstant hT ha.1.r.1 ha.1.r.2 fun r _ _ => br_i (fun _ => next) fun _ => hq a ha
    exact br_i (fun _ => k103) fun _ => s_isConstant hT hb.1.r.1 hb.1.r.2 fun r _ _ => br_i (fun _ => k103) fun _ => hq b hb
  have k22 : w_lookedUp_22 Q o u := by
    unfold w_lookedUp_22
    exact s_isDenied hT h fun r _ => br_i (fun _ => k34) fun _ => hq 0 (TJ.c0 hT)
  have hr := ho.1.r
  unfold w_lookedUp
  exact s_isInContext h fun r _ => br_i (fun _ => k22) fun _ => br_i (fun _ => hq 1 (TJ.c1 hT)) fun _ => s_isBoolean hr.1 (by omega) fun r _ => br_i (fun _ => k22) fun _ => hq 1 (TJ.c1 hT)
theorem s_areConstants {o : Int} {Q : Int → iST → Prop} {u : iST} {n : Nat} (hT : TI u) (o0 : 0 ≤ o) (o1 : o < u.1 8) (hl : IsL u (u.2.1 1 o) n) (ha : AllE u (TJ u) (u.2.1 1 o) n) (hq : ∀ r, bz r → (r ≠ 0 → AllE u (Cst u) (u.2.1 1 o) n) → Q r u) : w_areConstants o Q u := by
  have h8 := hT.2.1
  unfold w_areConstants
  refine bd_i o0 (by omega) (rd_i fun _ => ?_)
  unfold w_areConstants_7
  refine lr1 (B := fun R x2 u => w_areConstants_7b R Q x2 u) (fun m x2 v => v = u ∧ IsL u x2 m ∧ AllE u (TJ u) x2 m ∧ (AllE u (Cst u) x2 m → AllE u (Cst u) (u.2.1 1 o) n)) ?_ (n := n) ⟨rfl, hl, ha, id⟩
  intro m x2 v hI R ih
  obtain ⟨rfl, p1, p2, p3⟩ := hI
  unfold w_areConstants_7b
  cases m with
  | zero =>
    have hz : x2 = 0 := p1
    exact br_y hz (zt_1 (hq 1 (Or.inr rfl) (fun _ => p3 trivial)))
  | succ m =>
    have hx := p2.1.1.r
    have hz : x2 ≠ 0 := by
      intro hz
      have := p1.2.2.1
      have := hT.2.2.2.2.2.2.2.2.1 0 (by decide) (by decide)
      rw [hz] at *
      omega
    refine br_n hz (bd_i p1.1 (by have := p1.2.1; omega) (rd_i fun _ => s_isConstant hT hx.1 hx.2 fun r _ hr => br_i (fun hc => bd_i p1.1 (by have := p1.2.1; omega) (rd_i fun _ => ih m _ _ (by omega) ⟨rfl, p1.2.2.2, p2.2, fun hh => p3 ⟨hr.mp hc, hh⟩⟩)) fun hc => zt_0 (hq 0 (Or.inl rfl) (fun z => absurd rfl z))))
/-- evaluating: at most one object and one natural a STEP, and d, e beside -/
def EP (u v : iST) (d e : Int) : Prop := TI v ∧ ExtT u v ∧ Fx fE u v ∧ u.1 60 ≤ v.1 60 ∧ (u.1 60 ≤ u.1 59 → v.1 60 ≤ v.1 59) ∧ v.1 8 ≤ u.1 8 + (v.1 60 - u.1 60) + d ∧ v.1 6 ≤ u.1 6 + (v.1 60 - u.1 60) + e ∧ v.1 11 = u.1 11
theorem E0.ep {u v : iST} (h : E0 u v 0) : EP u v 0 0 := by
  obtain ⟨e1, e2, e3, e4, e5, e6, e7, e8, e9, e10, e11⟩ := h
  exact ⟨e1, e2, e3, e4, fun _ => e5, by omega, by omega, e8⟩
theorem Cst_eq {u v : iST} (hs : ∀ k, k ≤ 11 → v.1 k = u.1 k ∧ v.2.1 k = u.2.1 k) {k : Int} (h : Cst u k) : Cst v k := by
  unfold Cst Quo at h ⊢
  rw [(hs 0 (by decide)).2, (hs 1 (by decide)).2]
  exact h
theorem g_constantValue {o f : Int} {n : Nat} {Q : Int → iST → Prop} {u : iST} (hT : TI u) (o0 : 0 ≤ o) (o1 : o < u.1 8) (hn : n ≤ 6) (hl : IsL u (u.2.1 1 o) n) (ht : AllE u (TJ u) (u.2.1 1 o) n) (ha : AllE u (Cst u) (u.2.1 1 o) n) (hf1 : 4 ≤ f → f ≤ 16 → 1 ≤ n) (hf2 : 4 ≤ f → f ≤ 9 → 2 ≤ n) (h8b : u.1 8 < 452000) (h6b : u.1 6 < 40000) (hq : ∀ r v, EP u v 1 1 → v.1 60 = u.1 60 → (r = -1 ∨ (0 ≤ r ∧ r < v.1 8)) → Q r v) : w_constantValue o f Q u := by
  have h8 := hT.2.1
  unfold w_constantValue
  refine sw_i (bd_i o0 (by omega) (rd_i fun _ => ?_))
  show w_constantValue_12 Q f (u.2.1 1 o) (iI u 87 0)
  unfold w_constantValue_12
  refine lr2 (B := fun R x2 x3 u => w_constantValue_12b R Q x2 x3 u) (fun m x2 x3 v => x2 = f ∧ Fx fE u v ∧ (∀ k, k ≤ 11 → v.1 k = u.1 k ∧ v.2.1 k = u.2.1 k) ∧ v.2.2 = u.2.2 ∧ v.1 60 = u.1 60 ∧ v.1 87 + m = n ∧ 0 ≤ v.1 87 ∧ (∀ i, 0 ≤ i → i < v.1 87 → 0 ≤ v.2.1 86 i ∧ v.2.1 86 i < u.1 8) ∧ IsL u x3 m ∧ AllE u (TJ u) x3 m ∧ AllE u (Cst u) x3 m) ?_ (n := n) ⟨rfl, Fx_I (k := 87) rfl, fun k hk => ⟨if_neg (by omega), rfl⟩, rfl, rfl, ?_, Int.le_refl _, fun i i0 i1 => by have i1 : i < 0 := i1; omega, hl, ht, ha⟩
  · intro m x2 x3 v hI R ih
    obtain ⟨rfl, p1, p2, p3, p4, p5, p6, p7, p8, p9, p10⟩ := hI
    have vT : TI v := TI_eq hT p2 p3
    have v8 := (p2 8 (by decide)).1
    have v6 := (p2 6 (by decide)).1
    have vE : ExtT u v := ext_E p2 p3 p1
    unfold w_constantValue_12b
    cases m with
    | zero =>
      have hz : x3 = 0 := p8
      refine br_y hz (g_basic vT (Int.le_refl _) (by decide) (by omega) (by omega) (fun a b => ?_) (fun a b => ?_) fun r z hg hr => ?_)
      · have := hf1 a b
        rw [v8]
        exact p7 0 (Int.le_refl _) (by omega)
      · have := hf2 a b
        rw [v8]
        exact p7 (0 + 1) (by decide) (by omega)
      · have z60 : z.1 60 = v.1 60 := fx_s hg.2.2.2.1 60 rfl
        have z59 : z.1 59 = v.1 59 := fx_s hg.2.2.2.1 59 rfl
        have v59 : v.1 59 = u.1 59 := fx_s p1 59 rfl
        have z8 := hg.2.2.2.2.1
        have z6 := hg.2.2.2.2.2.1
        refine hq r z ⟨hg.1, vE.tr hT hg.extT, p1.tr (fE_T hg.2.2.2.1), by omega, by omega, by omega, by omega, ?_⟩ (by omega) hr
        rw [hg.2.2.2.2.2.2]
        exact (p2 11 (by decide)).1
    | succ m =>
      have hx := p9.1.1.r
      have hz : x3 ≠ 0 := by
        intro hz
        have := p8.2.2.1
        have := hT.2.2.2.2.2.2.2.2.1 0 (by decide) (by decide)
        rw [hz] at *
        omega
      have hx3 := p8.2.1
      refine br_n hz (rd_i fun _ => bd_i p8.1 (by omega) (rd_i fun _ => ?_))
      rw [(p2 0 (by decide)).2]
      refine s_valueOf vT hx.1 (by omega) (Cst_eq p2 p10.1) fun r r0 r1 => bd_i p6 (by omega) (sw_i (rd_i fun _ => ov_i (show -2147483648 ≤ v.1 87 + 1 by omega) (show v.1 87 + 1 < 2147483648 by omega) (sw_i (bd_i p8.1 (by omega) (rd_i fun _ => ?_)))))
      show R x2 (v.2.1 1 x3) (iI (iA v 86 (v.1 87) r) 87 (v.1 87 + 1))
      rw [(p2 1 (by decide)).2]
      refine ih m _ _ _ (by omega) ⟨rfl, (p1.tr (Fx_A (k := 86) rfl)).tr (Fx_I (k := 87) rfl), fun k hk => ⟨(if_neg (by omega)).trans (p2 k hk).1, (if_neg (by omega)).trans (p2 k hk).2⟩, p3, p4, ?_, ?_, fun i i0 i1 => ?_, p8.2.2.2, p9.2, p10.2⟩
      · show v.1 87 + 1 + m = n
        omega
      · show 0 ≤ v.1 87 + 1
        omega
      · show 0 ≤ (if i = v.1 87 then r else v.2.1 86 i) ∧ (if i = v.1 87 then r else v.2.1 86 i) < u.1 8
        have i1 : i < v.1 87 + 1 := i1
        by_cases e : i = v.1 87
        · rw [if_pos e]; omega
        · rw [if_neg e]; exact p7 i i0 (by omega)
  · show (0 : Int) + (n : Int) = n
    omega
theorem s_isNumbered {x : Int} {Q : Int → iST → Prop} {u : iST} (x0 : 0 ≤ x) (x1 : x < 452000) (hq : ∀ r, bz r → Q r u) : w_isNumbered x Q u := by
  have y : zt 1 (Q 1 u) := zt_1 (hq 1 (Or.inr rfl))
  unfold w_isNumbered
  refine s_isCallOf x0 x1 fun r _ _ => br_i (fun _ => y) fun _ => ?_
  refine s_isCallOf x0 x1 fun r _ _ => br_i (fun _ => y) fun _ => ?_
  exact s_isCallOf x0 x1 fun r _ _ => br_i (fun _ => zt_0 (hq 0 (Or.inl rfl))) fun _ => y
theorem s_plain {o : Int} {Q : Int → iST → Prop} {u : iST} (hT : TI u) (ho : TJ u o) (h0 : 4 ≤ u.2.1 0 o) (h1 : u.2.1 0 o ≤ 16) (hn : Q (-1) u) (hq : ∀ r, TJ u r → Q r u) : w_plain o Q u := by
  have h8 := hT.2.1
  have q0 := hq 0 (TJ.c0 hT)
  have q1 := hq 1 (TJ.c1 hT)
  have k150 : ∀ x3 x6, TJ u x3 → w_plain_150 Q x3 x6 u := by
    intro x3 x6 h3
    have r3 := h3.1.r
    unfold w_plain_150
    exact br_i (fun _ => hn) fun _ => s_isConstant hT r3.1 r3.2 fun r _ hr => br_i (fun _ => hn) fun hz => s_valueOf hT r3.1 r3.2 (hr.mp hz) fun r r0 r1 => s_isPair r0 (by omega) fun _ _ _ => br_i (fun _ => hn) fun _ => q0
  have k35 : ∀ x2 x3 y0, TJ u x3 → (y0 = -1 ∨ TJ u y0) → (x2 = 4 → TJ u y0) → w_plain_35 Q x2 x3 y0 u := by
    intro x2 x3 y0 h3 hy hy4
    have r3 := h3.1.r
    unfold w_plain_35
    refine s_isCallOf r3.1 (by omega) fun v3 _ hv3 => br_i (fun e => ?_) fun _ => br_i (fun _ => hn) fun _ => br_i (fun _ => hn) fun _ => br_i (fun _ => hn) fun _ => br_i (fun _ => hn) fun _ => br_i (fun _ => ?_) fun _ => br_i (fun _ => ?_) fun _ => br_i (fun _ => ?_) fun _ => br_i (fun _ => ?_) fun _ => br_i (fun _ => ?_) fun _ => br_i (fun _ => ?_) fun _ => hn
    · have ry := (hy4 e).1.r
      exact br_i (fun _ => s_isCallOf ry.1 (by omega) fun v4 _ _ => br_i (fun _ => k150 _ _ h3) fun _ => s_isConstant hT ry.1 ry.2 fun r _ hr => br_i (fun _ => k150 _ _ h3) fun hz => s_valueOf hT ry.1 ry.2 (hr.mp hz) fun r r0 r1 => s_isPair r0 (by omega) fun _ _ _ => br_i (fun _ => k150 _ _ h3) fun _ => q0) fun _ => q1
    · refine br_i (fun _ => q0) fun _ => br_i (fun _ => hn) fun hz => ?_
      have ry := (hy.resolve_left hz).1.r
      refine s_isNatural ry.1 (by omega) fun r _ hr => br_i (fun _ => hn) fun hz2 => ?_
      have hnn : u.2.1 0 y0 = -1 := by
        have : ¬ (u.2.1 0 y0 ≠ -1) := fun z => hz2 (hr.mpr z)
        omega
      have hv := hT.nat ry.1 ry.2 hnn
      exact s_value ry.1 (by omega) hv.1 hv.2.2.1 fun _ => br_i (fun _ => hn) fun _ => q0
    · exact br_i (fun _ => s_isNumbered r3.1 (by omega) fun _ _ => br_i (fun _ => hn) fun _ => q0) fun _ => q1
    · exact br_i (fun _ => hn) fun hz => t_base hT h3 (by have := hv3.mp hz; omega) (by have := hv3.mp hz; omega) (Or.inl rfl) fun t ht => hq t ht
    · exact br_i (fun _ => hn) fun hz => t_base hT h3 (by have := hv3.mp hz; omega) (by have := hv3.mp hz; omega) (Or.inr (Or.inl ⟨rfl, by have := hv3.mp hz; omega⟩)) fun t ht => hq t ht
    · exact br_i (fun _ => s_isNumbered r3.1 (by omega) fun _ _ => br_i (fun _ => hn) fun _ => q1) fun _ => q0
    · exact br_i (fun _ => q0) fun _ => s_isNumbered r3.1 (by omega) fun _ _ => br_i (fun _ => hn) fun _ => q0
  have r := ho.1.r
  unfold w_plain
  refine bd_i r.1 (by omega) (rd_i fun _ => t_base hT ho (by omega) h1 (Or.inl rfl) fun a ha => br_n (by omega) (br_i (fun hc => ?_) (fun hc => t_base hT ho (by omega) h1 (Or.inr (Or.inl ⟨rfl, by omega⟩)) fun b hb => k35 _ _ _ ha (Or.inr hb) (fun _ => hb))))
  unfold w_plain_34
  exact k35 _ _ _ ha (Or.inl rfl) (fun e => by omega)
