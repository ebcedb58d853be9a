/-! questions about rows; a literal goes or changes -/
theorem Cl.lit {u : iST} {r : Int} (hc : Cl u r) {x : Int} (h1 : 30 * r ≤ x) (h2 : x < 30 * r + u.2.1 115 r) : TJ u (u.2.1 114 x) := by
  have := hc.2.2.1 (x - 30 * r) (by omega) (by omega)
  rw [show 30 * r + (x - 30 * r) = x from by omega] at this
  exact this
theorem s_isProved {r : Int} {Q : Int → iST → Prop} {u : iST} (hT : TI u) (hc : Cl u r) (r0 : 0 ≤ r) (r1 : r < 2300) (hq : ∀ b, bz b → Q b u) : w_isProved r Q u := by
  have h8 := hT.2.1
  have c1 := hc.1
  have c2 := hc.2.1
  unfold w_isProved
  refine ov_i (by omega) (by omega) ?_
  unfold w_isProved_5
  refine lf2 (B := fun R x1 x2 u => w_isProved_5b R Q x1 x2 u) (fun x1 x2 v => v = u ∧ x1 = r ∧ 30 * r ≤ x2) (fun _ x2 _ => (30 * r + 30 - x2).toNat) ?_ ⟨rfl, rfl, Int.le_refl _⟩
  intro x1 x2 v hI R ih
  obtain ⟨e1, e2, p1⟩ := hI
  subst e1
  subst e2
  unfold w_isProved_5b
  refine ov_i (by omega) (by omega) (bd_i r0 r1 (rd_i fun _ => ov_i (by omega) (by omega) (br_i (fun _ => zt_0 (hq 0 (Or.inl rfl))) fun hlt => bd_i (by omega) (by omega) (rd_i fun _ => ?_))))
  have ht := hc.lit p1 (by omega)
  have hr := ht.1.r
  have k41 : ∀ t, w_isProved_41 R Q x1 x2 t v := by
    intro t
    unfold w_isProved_41
    refine ov_i (by omega) (by omega) ?_
    unfold w_isProved_47
    refine lf4 (B := fun R47 x1 x2 x3 x4 u => w_isProved_47b R R47 Q x1 x2 x3 x4 u) (fun y1 y2 y3 y4 z => v = z ∧ x1 = y1 ∧ x2 = y2 ∧ 30 * x1 ≤ y4) (fun _ _ _ y4 _ => (30 * x1 + 30 - y4).toNat) ?_ ⟨rfl, rfl, rfl, Int.le_refl _⟩
    intro y1 y2 y3 y4 z hI2 R47 ih2
    obtain ⟨e1, e2, e3, q1⟩ := hI2
    subst e1
    subst e2
    subst e3
    unfold w_isProved_47b
    refine ov_i (by omega) (by omega) (bd_i r0 r1 (rd_i fun _ => ov_i (by omega) (by omega) (br_i (fun _ => ov_i (by omega) (by omega) (ih _ _ _ ⟨rfl, rfl, by omega⟩ (by omega))) fun hlt2 => bd_i (by omega) (by omega) (rd_i fun _ => ?_))))
    have ht2 := hc.lit q1 (by omega)
    have hr2 := ht2.1.r
    have hrr := hT.right_r hr2.1 hr2.2
    exact s_isCallOf hr2.1 (by omega) fun b _ _ => br_i (fun _ => ov_i (by omega) (by omega) (ih2 _ _ _ _ _ ⟨rfl, rfl, rfl, by omega⟩ (by omega))) fun _ => bd_i (by omega) (by omega) (rd_i fun _ => bd_i hr2.1 (by omega) (rd_i fun _ => bd_i hrr.1 (by omega) (rd_i fun _ => br_i (fun _ => ov_i (by omega) (by omega) (ih2 _ _ _ _ _ ⟨rfl, rfl, rfl, by omega⟩ (by omega))) fun _ => zt_1 (hq 1 (Or.inr rfl)))))
  exact s_isConstant hT hr.1 hr.2 fun b _ _ => br_i (fun _ => k41 _) fun _ => br_i (fun _ => k41 _) fun _ => zt_1 (hq 1 (Or.inr rfl))
theorem s_together {r : Int} {Q : Int → iST → Prop} {u : iST} (hT : TI u) (hc : Cl u r) (r0 : 0 ≤ r) (r1 : r < 2300) (hq : ∀ s, Q s u) : w_together r Q u := by
  have h8 := hT.2.1
  have c1 := hc.1
  have c2 := hc.2.1
  unfold w_together w_together_4
  refine lf3 (B := fun R x1 x2 x3 u => w_together_4b R Q x1 x2 x3 u) (fun x1 x2 x3 v => u = v ∧ r = x1 ∧ 0 ≤ x3 ∧ 0 ≤ x2 ∧ x2 ≤ 30000 * x3) (fun _ _ x3 _ => (30 - x3).toNat) ?_ ⟨rfl, rfl, Int.le_refl _, Int.le_refl _, by omega⟩
  intro x1 x2 x3 v hI R ih
  obtain ⟨e1, e2, p1, p2, p3⟩ := hI
  subst e1
  subst e2
  unfold w_together_4b
  refine bd_i r0 r1 (rd_i fun _ => br_i (fun _ => hq _) fun hlt => ov_i (by omega) (by omega) (ov_i (by omega) (by omega) (bd_i (by omega) (by omega) (rd_i fun _ => ?_))))
  have ht := hc.2.2.1 x3 p1 (by omega)
  have hr := ht.1.r
  have hz := ht.1.szr hT
  exact s_sizeOf hr.1 (by omega) fun _ => ov_i (by omega) (by omega) (ov_i (by omega) (by omega) (ih _ _ _ _ ⟨rfl, rfl, by omega, by omega, by omega⟩ (by omega)))
theorem s_splits {x : Int} {Q : Int → iST → Prop} {u : iST} (hT : TI u) (hx : TJ u x) (hq : ∀ b, bz b → (b ≠ 0 → u.2.1 0 x = 3 ∨ (u.2.1 0 x = 15 ∧ u.2.1 0 (u.2.1 0 (u.2.1 1 x)) = 3)) → Q b u) : w_splits x Q u := by
  have h8 := hT.2.1
  have hr := hx.1.r
  unfold w_splits
  refine s_isCallOf hr.1 (by omega) fun b1 _ hb1 => br_i (fun hz => zt_1 (hq 1 (Or.inr rfl) (fun _ => Or.inl (hb1.mp hz).2))) fun _ => s_isCallOf hr.1 (by omega) fun b2 _ hb2 => br_i (fun _ => zt_0 (hq 0 (Or.inl rfl) (fun z => absurd rfl z))) fun hz => ?_
  have hf := (hb2.mp hz).2
  have hrr := hT.right_r hr.1 hr.2
  have ha := TJ.el (i := 1) hT hx (by omega) (by omega) (Or.inl rfl)
  have ra : 0 ≤ u.2.1 0 (u.2.1 1 x) ∧ u.2.1 0 (u.2.1 1 x) < u.1 8 := ha.1.r
  exact bd_i hr.1 (by omega) (rd_i fun _ => bd_i hrr.1 (by omega) (rd_i fun _ => s_isCallOf ra.1 (by omega) fun b3 _ hb3 => br_i (fun _ => zt_0 (hq 0 (Or.inl rfl) (fun z => absurd rfl z))) fun hz3 => zt_1 (hq 1 (Or.inr rfl) (fun _ => Or.inr ⟨hf, (hb3.mp hz3).2⟩))))
def fU (k : Nat) : Bool := decide (k = 114) || decide (k = 115)
/-- row r alone has changed -/
def RowCh (u v : iST) (r : Int) : Prop := Fx fU u v ∧ v.2.2 = u.2.2 ∧ (∀ j, (j < 30 * r ∨ 30 * r + 30 ≤ j) → v.2.1 114 j = u.2.1 114 j) ∧ (∀ j, j ≠ r → v.2.1 115 j = u.2.1 115 j) ∧ Cl v r
theorem RowCh.tr {u v w : iST} {r : Int} (h : RowCh u v r) (g : RowCh v w r) : RowCh u w r := ⟨h.1.tr g.1, g.2.1.trans h.2.1, fun j hj => (g.2.2.1 j hj).trans (h.2.2.1 j hj), fun j hj => (g.2.2.2.1 j hj).trans (h.2.2.2.1 j hj), g.2.2.2.2⟩
theorem RowCh.e {u v : iST} {r : Int} (h : RowCh u v r) : ExtT u v := ExtT.same (fun k hk => h.1 k (by simp [fU]; omega)) h.2.1 (SameF.of h.1 rfl rfl rfl rfl rfl)
theorem RowCh.ti {u v : iST} {r : Int} (hT : TI u) (h : RowCh u v r) : TI v := TI_eq hT (fun k hk => h.1 k (by simp [fU]; omega)) h.2.1
theorem g_removeAt {r i : Int} {Q : iST → Prop} {u : iST} (hT : TI u) (hc : Cl u r) (r0 : 0 ≤ r) (r1 : r < 2300) (i0 : 0 ≤ i) (i1 : i < u.2.1 115 r) (hq : ∀ v, RowCh u v r → v.2.1 115 r = u.2.1 115 r - 1 → Q v) : w_removeAt r i Q u := by
  have c1 := hc.1
  have c2 := hc.2.1
  unfold w_removeAt
  refine bd_i r0 r1 (rd_i fun _ => ov_i (by omega) (by omega) (bd_i r0 r1 (sw_i (ov_i (by omega) (by omega) (ov_i (by omega) (by omega) ?_)))))
  unfold w_removeAt_17
  refine lf2 (B := fun R x1 x3 u => w_removeAt_17b R Q x1 x3 u) (fun x1 x3 v => r = x1 ∧ 30 * r ≤ x3 ∧ x3 < 30 * r + u.2.1 115 r ∧ Fx fU u v ∧ v.2.2 = u.2.2 ∧ (∀ j, (j < 30 * r ∨ 30 * r + 30 ≤ j) → v.2.1 114 j = u.2.1 114 j) ∧ (∀ j, v.2.1 115 j = if j = r then u.2.1 115 r - 1 else u.2.1 115 j) ∧ (∀ j, 30 * r ≤ j → j < x3 → TJ u (v.2.1 114 j)) ∧ (∀ j, x3 ≤ j → v.2.1 114 j = u.2.1 114 j)) (fun _ x3 _ => (30 * r + 30 - x3).toNat) ?_ ⟨rfl, by omega, by omega, Fx_A (k := 115) rfl, rfl, fun j _ => rfl, fun j => iA_same, fun j j0 j1 => ?_, fun j _ => rfl⟩
  · intro x1 x3 v hI R ih
    obtain ⟨e1, p1, p2, p3, p4, p5, p6, p7, p8⟩ := hI
    subst e1
    have m1 : v.2.1 115 r = u.2.1 115 r - 1 := by rw [p6, if_pos rfl]
    unfold w_removeAt_17b
    refine ov_i (by omega) (by omega) (bd_i r0 r1 (rd_i fun _ => ov_i (by omega) (by omega) (br_i (fun hc2 => ?_) (fun hc2 => ov_i (by omega) (by omega) (bd_i (by omega) (by omega) (rd_i fun _ => bd_i (by omega) (by omega) (sw_i (ov_i (by omega) (by omega) (ih _ _ _ ⟨rfl, by omega, by omega, p3.tr (Fx_A (k := 114) rfl), p4, fun j hj => ?_, fun j => ?_, fun j j0 j1 => ?_, fun j hj => ?_⟩ (by omega))))))))))
    · have hE : ExtT u v := ExtT.same (fun k hk => p3 k (by simp [fU]; omega)) p4 (SameF.of p3 rfl rfl rfl rfl rfl)
      refine hq v ⟨p3, p4, p5, fun j hj => by rw [p6, if_neg hj], ⟨by omega, by omega, fun t t0 t1 => (p7 _ (by omega) (by omega)).ext hT hE, ?_⟩⟩ m1
      rw [fx_a p3 116 rfl]
      exact hc.2.2.2
    · rw [iA_same, if_neg (by omega)]; exact p5 j hj
    · rw [iA_other (by decide)]; exact p6 j
    · rw [iA_same]
      by_cases e : j = x3
      · rw [if_pos e, p8 _ (by omega)]
        exact hc.lit (by omega) (by omega)
      · rw [if_neg e]; exact p7 j j0 (by omega)
    · rw [iA_same, if_neg (by omega)]; exact p8 j (by omega)
  · exact hc.lit j0 (by omega)
theorem g_changeTo {r i y : Int} {Q : Int → iST → Prop} {u : iST} (hT : TI u) (hc : Cl u r) (r0 : 0 ≤ r) (r1 : r < 2300) (i0 : 0 ≤ i) (i1 : i < u.2.1 115 r) (hy : TJ u y) (hq : ∀ b v, bz b → RowCh u v r → Q b v) : w_changeTo r i y Q u := by
  have c1 := hc.1
  have c2 := hc.2.1
  unfold w_changeTo w_changeTo_3
  refine lf4 (B := fun R x1 x2 x3 x4 u => w_changeTo_3b R Q x1 x2 x3 x4 u) (fun x1 x2 x3 x4 v => u = v ∧ r = x1 ∧ i = x2 ∧ y = x3 ∧ 0 ≤ x4) (fun _ _ _ x4 _ => (i - x4).toNat) ?_ ⟨rfl, rfl, rfl, rfl, Int.le_refl _⟩
  intro x1 x2 x3 x4 v hI R ih
  obtain ⟨e1, e2, e3, e4, p1⟩ := hI
  subst e1
  subst e2
  subst e3
  subst e4
  unfold w_changeTo_3b
  refine br_i (fun hc2 => ov_i (by omega) (by omega) (ov_i (by omega) (by omega) (bd_i (by omega) (by omega) (sw_i (ov_i (by omega) (by omega) ?_))))) fun hc2 => ov_i (by omega) (by omega) (ov_i (by omega) (by omega) (bd_i (by omega) (by omega) (rd_i fun _ => br_i (fun _ => ov_i (by omega) (by omega) (ih _ _ _ _ _ ⟨rfl, rfl, rfl, rfl, by omega⟩ (by omega))) fun _ => g_removeAt hT hc r0 r1 i0 i1 fun v hv _ => zt_0 (hq 0 v (Or.inl rfl) hv))))
  have F0 : Fx fU u (iA u 114 (30 * r + i) y) := Fx_A (k := 114) rfl
  have E0 : ExtT u (iA u 114 (30 * r + i) y) := ExtT.same (fun k hk => F0 k (by simp [fU]; omega)) rfl (SameF.of F0 rfl rfl rfl rfl rfl)
  have start : RowCh u (iA u 114 (30 * r + i) y) r := by
    refine ⟨F0, rfl, fun j hj => by rw [iA_same, if_neg (by omega)], fun j _ => rfl, ⟨c1, c2, fun t t0 t1 => ?_, hc.2.2.2⟩⟩
    rw [iA_same]
    by_cases e : 30 * r + t = 30 * r + i
    · rw [if_pos e]; exact hy.ext hT E0
    · rw [if_neg e]; exact (hc.2.2.1 t t0 t1).ext hT E0
  unfold w_changeTo_56
  refine lf3 (B := fun R x1 x3 x4 u => w_changeTo_56b R Q x1 x3 x4 u) (fun y1 y3 y4 z => r = y1 ∧ 0 ≤ y4 ∧ RowCh u z r) (fun _ _ y4 z => (z.2.1 115 r - y4).toNat) ?_ ⟨rfl, by omega, start⟩
  intro y1 y3 y4 z hI2 R2 ih2
  obtain ⟨e1, q1, q2⟩ := hI2
  subst e1
  have z1 := q2.2.2.2.2.1
  have z2 := q2.2.2.2.2.2.1
  unfold w_changeTo_56b
  exact bd_i r0 r1 (rd_i fun _ => br_i (fun _ => zt_1 (hq 1 z (Or.inr rfl) q2)) fun hlt => ov_i (by omega) (by omega) (ov_i (by omega) (by omega) (bd_i (by omega) (by omega) (rd_i fun _ => br_i (fun _ => ov_i (by omega) (by omega) (ih2 _ _ _ _ ⟨rfl, by omega, q2⟩ (by omega))) fun _ => g_removeAt (q2.ti hT) q2.2.2.2.2 r0 r1 q1 (by omega) fun p hp hp2 => ov_i (by omega) (by omega) (ov_i (by omega) (by omega) (ih2 _ _ _ _ ⟨rfl, by omega, q2.tr hp⟩ (by omega)))))))
