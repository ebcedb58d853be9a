/-! a result is taken -/
theorem s_lookedUp2 {o tr : Int} {Q : Int → iST → Prop} {u : iST} (hT : TI u) (h : CX u) (o0 : 0 ≤ o) (o1 : o < u.1 8) (hq0 : Q o u) (hq : ∀ r, TJ u r → Q r u) : w_lookedUp o tr Q u := by
  have h8 := hT.2.1
  have k34 : w_lookedUp_34 Q o 0 u := by
    unfold w_lookedUp_34
    refine lf2 (B := fun R x1 x3 u => w_lookedUp_34b R Q x1 x3 u) (fun x1 x3 v => v = u ∧ x1 = o ∧ 0 ≤ x3) (fun _ x3 _ => (200 - x3).toNat) ?_ ⟨rfl, rfl, Int.le_refl _⟩
    intro x1 x3 v hI R ih
    obtain ⟨rfl, rfl, p1⟩ := hI
    have hl := h.2.1
    unfold w_lookedUp_34b
    refine rd_i fun _ => br_i (fun _ => hq0) fun hc => bd_i p1 (by omega) (rd_i fun _ => ?_)
    have hx := h.2.2 x3 p1 (by omega)
    have next : ov (x3 + 1) (R x1 (x3 + 1) v) := ov_i (by omega) (by omega) (ih _ _ _ ⟨rfl, rfl, by omega⟩ (by omega))
    refine s_isCallOf hx.1.r.1 (by have := hx.1.r; omega) fun r _ hr => br_i (fun hz => ?_) (fun _ => next)
    have hf := hr.mp hz
    refine bd_i p1 (by omega) (rd_i fun _ => t_base hT hx (by omega) (by omega) (Or.inl rfl) fun a ha => bd_i p1 (by omega) (rd_i fun _ => t_base hT hx (by omega) (by omega) (Or.inr (Or.inl ⟨rfl, by omega⟩)) fun b hb => ?_))
    have k103 : w_lookedUp_103 R Q x1 x3 a b v := by
      unfold w_lookedUp_103
      exact br_i (fun _ => next) fun _ => s_isConstant hT ha.1.r.1 ha.1.r.2 fun r _ _ => br_i (fun _ => next) fun _ => hq a ha
    exact br_i (fun _ => k103) fun _ => s_isConstant hT hb.1.r.1 hb.1.r.2 fun r _ _ => br_i (fun _ => k103) fun _ => hq b hb
  have k22 : w_lookedUp_22 Q o u := by
    unfold w_lookedUp_22
    exact s_isDenied hT h fun r _ => br_i (fun _ => k34) fun _ => hq 0 (TJ.c0 hT)
  unfold w_lookedUp
  exact s_isInContext h fun r _ => br_i (fun _ => k22) fun _ => br_i (fun _ => hq 1 (TJ.c1 hT)) fun _ => s_isBoolean o0 (by omega) fun r _ => br_i (fun _ => k22) fun _ => hq 1 (TJ.c1 hT)
theorem Wt.back {u w : iST} {k : Nat} {R C d e : Int} (hu : TI u) (hc0 : 0 ≤ u.1 109) (h : Wt u w (k + 1) (k + 1) R R C d e) : ∃ R' C', 0 ≤ R' ∧ R' ≤ R ∧ R ≤ 6 * k + 6 ∧ 0 ≤ C' ∧ C' ≤ u.1 109 + k ∧ Jb w k R' R C' C ∧ ∀ v T, (∀ g, g ≠ 104 → g ≠ 109 → g ≠ 111 → v.1 g = w.1 g) → v.1 104 = T → v.1 109 = C' → (∀ g, (g < 92 ∨ 101 < g) → g ≠ 103 → v.2.1 g = w.2.1 g) → v.2.2 = w.2.2 → (∀ i : Nat, i < k → RowEq w v i) → (∀ j, j < R → v.2.1 103 j = w.2.1 103 j) → Wt u v (k + 1) k R' T C' d e ∧ ExtT w v ∧ Fx fJ w v := by
  obtain ⟨a1, a2, a3, a4, ⟨R', C', b1, b2⟩, a6, a7, a8⟩ := h
  have r1 := b1.r
  have r2 := b2.r
  refine ⟨R', C', by omega, by omega, by omega, by omega, by omega, b2, ?_⟩
  intro v T n1 n104 n109 g1 gL rows r103
  have hF : Fx fJ w v := fun g hg => by
    have hg2 : (g < 92 ∨ 113 < g) := by simp [fJ, fM] at hg; omega
    exact ⟨n1 g (by omega) (by omega) (by omega), g1 g (by omega) (by omega)⟩
  have S : SP fJ w v 0 0 := SP.same a1 (fun _ h => h) hF (fun g hg => ⟨n1 g (by omega) (by omega) (by omega), g1 g (by omega) (by omega)⟩) gL (n1 69 (by decide) (by decide) (by decide)) (n1 71 (by decide) (by decide) (by decide)) (n1 60 (by decide) (by decide) (by decide)) (OI_eq a1.2.2.2.1 (n1 16 (by decide) (by decide) (by decide)) (n1 22 (by decide) (by decide) (by decide)))
  refine ⟨⟨S.wi a1, (a2.tr hu S).mono (by omega) (by omega), by rw [n1 102 (by decide) (by decide) (by decide)]; exact a3, a4, b1.ext a1 S.2.1 hF rows (fun j _ j1 => r103 j (by omega)), n104, n109, ?_⟩, S.2.1, hF⟩
  unfold CX
  rw [n109, g1 108 (by omega) (by decide)]
  exact ⟨by omega, by have := a8.2.1; omega, fun i i0 i1 => (a8.2.2 i i0 (by omega)).ext a1.1.1 S.2.1⟩
/-- a term is pushed to the context, and job k waits with it -/
theorem Wt.push {u w : iST} {k : Nat} {R C d e t : Int} (hu : TI u) (h : Wt u w (k + 1) k R R C d e) (ht : TJ w t) (hC : C < 200) : SP fJ w (iI (iA w 108 C t) 109 (C + 1)) 0 0 ∧ ∀ z, Fx fN (iI (iA w 108 C t) 109 (C + 1)) z → z.2.2 = w.2.2 → (∀ i : Nat, i < k → RowEq (iI (iA w 108 C t) 109 (C + 1)) z i) → Jb z k R R C (C + 1) → Wt u z (k + 1) (k + 1) R R (C + 1) d e := by
  obtain ⟨a1, a2, a3, a4, a5, a6, a7, a8⟩ := h
  have S : SP fJ w (iI (iA w 108 C t) 109 (C + 1)) 0 0 := SP.same a1 (fun _ h => h) ((Fx_A (k := 108) rfl).tr (Fx_I (k := 109) rfl)) (fun g hg => ⟨if_neg (by omega), iA_other (by omega)⟩) rfl rfl rfl rfl a1.2.2.2.1
  refine ⟨S, fun z zF zL zr zJ => ?_⟩
  have W1 := S.wi a1
  have S2 := SP.rows W1 zF zL
  have hE := S.2.1.tr a1.1.1 S2.2.1
  have c0 : 0 ≤ C := by have := a8.1; omega
  have rows : ∀ i : Nat, i < k → RowEq w z i := fun i hi => by
    refine RowEq.tr ⟨fun g g1 g2 => ?_, ?_, fun j _ _ => ?_⟩ (zr i hi)
    · show (iA w 108 C t).2.1 g i = _
      rw [iA_other (by omega)]
    · rfl
    · rfl
  refine ⟨S2.wi W1, ((a2.tr hu S).tr hu S2).mono (by omega) (by omega), by rw [fx_s zF 102 rfl]; exact a3, a4, ⟨R, C, a5.ext a1 hE (S.2.2.1.tr S2.2.2.1) rows (fun j _ _ => by rw [fx_a zF 103 rfl]; rfl), zJ⟩, by rw [fx_s zF 104 rfl]; exact a6, by rw [fx_s zF 109 rfl]; rfl, ?_⟩
  unfold CX
  rw [fx_s zF 109 rfl, fx_a zF 108 rfl]
  show 0 ≤ C + 1 ∧ C + 1 ≤ 200 ∧ ∀ i, 0 ≤ i → i < C + 1 → TJ z (if i = C then t else w.2.1 108 i)
  refine ⟨by omega, by omega, fun i i0 i1 => ?_⟩
  by_cases e : i = C
  · rw [if_pos e]; exact ht.ext a1.1.1 hE
  · rw [if_neg e]; exact (a8.2.2 i i0 (by omega)).ext a1.1.1 hE
theorem s_push {t : Int} {Q : iST → Prop} {w : iST} (h0 : 0 ≤ w.1 109) (h1 : w.1 109 < 200) (h : Q (iI (iA w 108 (w.1 109) t) 109 (w.1 109 + 1))) : w_push t Q w := by
  unfold w_push
  exact rd_i fun _ => bd_i h0 h1 (sw_i (rd_i fun _ => ov_i (show -2147483648 ≤ w.1 109 + 1 by omega) (show w.1 109 + 1 < 2147483648 by omega) (sw_i h)))
/-- job k, an IF call, has its test: c is known to be neither true nor false -/
theorem g_test {u w : iST} {k n : Nat} {R C x : Int} {Q : iST → Prop} (hu : TI u) (hB : Bud u) (h : K0 u w k n R C x 10 2) (h3 : w.2.1 0 x = 3) (hc0 : C < 200) (ht : TJ w (w.1 110)) (hq : ∀ (N : Nat) v, EX u N v → N < n → Q v) : w_test k Q w := by
  have hk := h.1.2.2.2.1
  have hW := h.1.1
  have hT := hW.1.1
  have hm := hT.2.1
  have rc := ht.1.r
  have bud := h.1.bud hB
  have hCX := h.1.2.2.2.2.2.2.2
  have h109 : w.1 109 = C := h.1.2.2.2.2.2.2.1
  have hn0 : 0 < n := by have := h.2.2.2.2; have := hW.2.2.2.2.2.2.1; omega
  have k81 : ∀ f c i j : Int, TJ w c → w_test_81 Q k x f k c w := by
    intro f c i j hc
    unfold w_test_81
    refine bd_i (by omega) (by omega) (sw_i ?_)
    have hv := h.set (g := 95) (a := c) hu (by decide) (by decide)
    have v95 : (iA w 95 (k : Int) c).2.1 95 k = c := by rw [iA_same, if_pos rfl]
    have vg : ∀ g, g ≠ 95 → (iA w 95 (k : Int) c).2.1 g = w.2.1 g := fun g hg => iA_other hg
    have v1 : (iA w 95 (k : Int) c).1 = w.1 := rfl
    have vL : (iA w 95 (k : Int) c).2.2 = w.2.2 := rfl
    have vE := (SP.rows (v := iA w 95 (k : Int) c) hW (Fx_A (k := 95) rfl) rfl).2.1
    generalize iA w 95 (k : Int) c = v at *
    have k98 : ∀ i : Int, i = 2 ∨ i = 3 → w_test_98 Q k x f k x i v := by
      intro i hi
      have v0 : v.2.1 0 x = 3 := by rw [vg 0 (by decide)]; exact h3
      unfold w_test_98
      refine t_base hv.1.1.1.1 hv.2.2.1 (by omega) (by omega) (by omega) fun t1 ht1 => bd_i (by omega) (by omega) (sw_i ?_)
      have hz := hv.set (g := 97) (a := t1) hu (by decide) (by decide)
      have z97 : (iA v 97 (k : Int) t1).2.1 97 k = t1 := by rw [iA_same, if_pos rfl]
      have zg : ∀ g, g ≠ 97 → (iA v 97 (k : Int) t1).2.1 g = v.2.1 g := fun g hg => iA_other hg
      have z1 : (iA v 97 (k : Int) t1).1 = v.1 := rfl
      have zL : (iA v 97 (k : Int) t1).2.2 = v.2.2 := rfl
      have zE := (SP.rows (v := iA v 97 (k : Int) t1) hv.1.1 (Fx_A (k := 97) rfl) rfl).2.1
      generalize iA v 97 (k : Int) t1 = z at *
      have hzc : TJ z c := (hc.ext hT vE).ext hv.1.1.1.1 zE
      have hzt : TJ z t1 := ht1.ext hv.1.1.1.1 zE
      have z109 : z.1 109 = C := by rw [z1, v1]; exact h109
      refine bd_i (by omega) (by omega) (rd_i fun _ => ?_)
      rw [zg 95 (by decide), v95]
      have c0 : 0 ≤ C := by have := hCX.1; omega
      refine s_push (by omega) (by omega) (bd_i (by omega) (by omega) (sw_i ?_))
      rw [z109]
      obtain ⟨S, fin⟩ := Wt.push hu hz.1 hzc (by omega)
      have pW := S.wi hz.1.1
      have hpx : TJ (iI (iA z 108 C c) 109 (C + 1)) x := hz.2.2.1.ext hz.1.1.1.1 S.2.1
      have hq' := SP.rows (v := iA (iI (iA z 108 C c) 109 (C + 1)) 94 (k : Int) 3) pW (Fx_A (k := 94) rfl) rfl
      have fin' := fin (iA (iI (iA z 108 C c) 109 (C + 1)) 94 (k : Int) 3) (Fx_A (k := 94) rfl) rfl (fun i hi => RowEq.set (by omega) (by decide) (by decide))
      have q94 : (iA (iI (iA z 108 C c) 109 (C + 1)) 94 (k : Int) 3).2.1 94 k = 3 := by rw [iA_same, if_pos rfl]
      have qg : ∀ g, g ≠ 94 → g ≠ 108 → (iA (iI (iA z 108 C c) 109 (C + 1)) 94 (k : Int) 3).2.1 g = z.2.1 g := fun g g1 g2 => (iA_other g1).trans (iA_other g2)
      have q1 : ∀ g, g ≠ 109 → (iA (iI (iA z 108 C c) 109 (C + 1)) 94 (k : Int) 3).1 g = z.1 g := fun g hg => if_neg hg
      have qE := S.2.1.tr hz.1.1.1.1 hq'.2.1
      have qW := hq'.wi pW
      generalize iA (iI (iA z 108 C c) 109 (C + 1)) 94 (k : Int) 3 = q at *
      have hqx : TJ q x := hz.2.2.1.ext hz.1.1.1.1 qE
      have q92 : q.2.1 92 k = x := by rw [qg 92 (by decide) (by decide)]; exact hz.2.1
      have hWt := fin' ⟨by rw [q92]; exact hqx, Or.inr (Or.inl ⟨q94, by rw [qg 95 (by decide) (by decide), zg 95 (by decide), v95]; exact hzc.ext hz.1.1.1.1 qE, by rw [qg 97 (by decide) (by decide), z97]; exact hzt.ext hz.1.1.1.1 qE, rfl, rfl⟩)⟩
      have q0 : q.2.1 0 x = 3 := by rw [qg 0 (by decide) (by decide), zg 0 (by decide)]; exact v0
      have k131 : ∀ i : Int, i = 2 ∨ i = 3 → w_test_131 Q k x i q := by
        intro i hi
        unfold w_test_131
        refine t_base qW.1.1 hqx (by omega) (by omega) (by omega) fun t2 ht2 => bd_i (by omega) (by omega) (rz_i fun hb => ?_)
        exact g_beginJob hu hWt (by decide) (by decide) ht2.1 (fun _ => ht2.2) hb (by rw [q1 59 (by decide), q1 60 (by decide), z1, v1]; exact h.2.2.2.2) hn0 hq
      exact br_i (fun _ => k131 2 (Or.inl rfl)) fun _ => k131 3 (Or.inr rfl)
    exact br_i (fun _ => k98 3 (Or.inr rfl)) fun _ => k98 2 (Or.inl rfl)
  have k33 : ∀ i : Int, i = 2 ∨ i = 3 → w_test_33 Q x i w := by
    intro i hi
    unfold w_test_33
    exact t_base hT h.2.2.1 (by omega) (by omega) (by omega) fun t ht => h.passOn hu (by decide) (by decide) ht.1 (fun _ => ht.2) hq
  unfold w_test
  refine bd_i (by omega) (by omega) (rd_i fun _ => ?_)
  rw [h.2.1]
  refine rd_i fun _ => s_isConstant hT rc.1 rc.2 fun r _ _ => br_i (fun _ => rd_i fun _ => s_isCallOf rc.1 (by omega) fun r2 _ hr2 => br_i (fun _ => rd_i fun _ => k81 _ _ 0 0 ht) fun hz => rd_i fun _ => bd_i rc.1 (by omega) (rd_i fun _ => ?_)) fun _ => rd_i fun _ => br_i (fun _ => k33 2 (Or.inl rfl)) fun _ => k33 3 (Or.inr rfl)
  have hf := (hr2.mp hz).2
  have hr := hT.right_r rc.1 rc.2
  exact bd_i hr.1 (by omega) (rd_i fun _ => k81 _ _ 0 0 (TJ.el (i := 1) hT ht (by omega) (by omega) (Or.inl rfl)))
