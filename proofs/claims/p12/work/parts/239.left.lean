/-! definition, theoremOf; the clauses that are left are told -/
theorem s_definition {x : Int} {Q : Int → iST → Prop} {u : iST} (h0 : 0 ≤ u.1 35) (h1 : u.1 35 ≤ 40) (hq : ∀ r, ((r = -1 ∧ ∀ e, 0 ≤ e → e < u.1 35 → u.2.1 36 e ≠ x) ∨ (0 ≤ r ∧ r < u.1 35 ∧ u.2.1 36 r = x ∧ ∀ e, 0 ≤ e → e < r → u.2.1 36 e ≠ x)) → Q r u) : w_definition x Q u := by
  unfold w_definition w_definition_2
  refine lf2 (B := fun R x1 x2 u => w_definition_2b R Q x1 x2 u) (fun x1 x2 v => u = v ∧ x = x1 ∧ 0 ≤ x2 ∧ ∀ e, 0 ≤ e → e < x2 → u.2.1 36 e ≠ x) (fun _ x2 _ => (40 - x2).toNat) ?_ ⟨rfl, rfl, Int.le_refl _, fun e e0 e1 => by omega⟩
  intro x1 x2 v hI R ih
  obtain ⟨e1, e2, p1, p2⟩ := hI
  subst e1
  subst e2
  unfold w_definition_2b
  refine rd_i fun _ => br_i (fun hc => hq (-1) (Or.inl ⟨rfl, fun e e0 e1 => p2 e e0 (by omega)⟩)) fun hc => bd_i p1 (by omega) (rd_i fun _ => br_i (fun hne => ov_i (by omega) (by omega) (ih _ _ _ ⟨rfl, rfl, by omega, fun e e0 e1 => ?_⟩ (by omega))) fun he => hq x2 (Or.inr ⟨p1, by omega, by omega, p2⟩))
  by_cases ee : e = x2
  · rw [ee]; exact hne
  · exact p2 e e0 (by omega)
theorem s_theoremOf {x : Int} {Q : Int → iST → Prop} {u : iST} (h0 : 0 ≤ u.1 42) (h1 : u.1 42 ≤ 60) (hq : ∀ r, ((r = -1 ∧ ∀ e, 0 ≤ e → e < u.1 42 → u.2.1 43 e ≠ x) ∨ (0 ≤ r ∧ r < u.1 42 ∧ u.2.1 43 r = x)) → Q r u) : w_theoremOf x Q u := by
  unfold w_theoremOf w_theoremOf_2
  refine lf2 (B := fun R x1 x2 u => w_theoremOf_2b R Q x1 x2 u) (fun x1 x2 v => u = v ∧ x = x1 ∧ 0 ≤ x2 ∧ ∀ e, 0 ≤ e → e < x2 → u.2.1 43 e ≠ x) (fun _ x2 _ => (60 - x2).toNat) ?_ ⟨rfl, rfl, Int.le_refl _, fun e e0 e1 => by omega⟩
  intro x1 x2 v hI R ih
  obtain ⟨e1, e2, p1, p2⟩ := hI
  subst e1
  subst e2
  unfold w_theoremOf_2b
  refine rd_i fun _ => br_i (fun hc => hq (-1) (Or.inl ⟨rfl, fun e e0 e1 => p2 e e0 (by omega)⟩)) fun hc => bd_i p1 (by omega) (rd_i fun _ => br_i (fun hne => ov_i (by omega) (by omega) (ih _ _ _ ⟨rfl, rfl, by omega, fun e e0 e1 => ?_⟩ (by omega))) fun he => hq x2 (Or.inr ⟨p1, by omega, by omega⟩))
  by_cases ee : e = x2
  · rw [ee]; exact hne
  · exact p2 e e0 (by omega)
theorem g_tellOut {o : Int} {Q : iST → Prop} {u : iST} (hT : TI u) (hO : OI u) (o0 : 0 ≤ o) (o1 : o < u.1 8) (hq : ∀ v, TPost (iI u 16 0) v → Q v) : w_tellOut o Q u := by
  unfold w_tellOut
  exact sw_i (g_tellObject (TI_eq hT (fun g hg => ⟨if_neg (by omega), rfl⟩) rfl) ⟨Int.le_refl _, (by decide : (0 : Int) ≤ 2000), hO.2.2.1, hO.2.2.2⟩ o0 o1 hq)
theorem g_rowList {r : Int} {Q : Int → iST → Prop} {u : iST} (hT : TI u) (hc : Cl u r) (r0 : 0 ≤ r) (r1 : r < 2300) (h8 : u.1 8 + 30 ≤ 452000) (hq : ∀ t v, Grow u v 30 0 → 0 ≤ t → t < v.1 8 → Q t v) : w_rowList r Q u := by
  have h44 := hT.1
  have c1 := hc.1
  have c2 := hc.2.1
  unfold w_rowList
  refine bd_i r0 r1 (rd_i fun _ => ov_i (by omega) (by omega) ?_)
  unfold w_rowList_11
  refine lf3 (B := fun R x1 x2 x3 u => w_rowList_11b R Q x1 x2 x3 u) (fun x1 x2 x3 v => r = x1 ∧ -1 ≤ x3 ∧ x3 < u.2.1 115 r ∧ Grow u v (u.2.1 115 r - 1 - x3) 0 ∧ 0 ≤ x2 ∧ x2 < v.1 8) (fun _ _ x3 _ => (x3 + 1).toNat) ?_ ⟨rfl, by omega, by omega, (Grow.rf hT).mono (by omega) (by omega), Int.le_refl _, by omega⟩
  intro x1 x2 x3 v hI R ih
  obtain ⟨e1, p1, p2, p3, p4, p5⟩ := hI
  subst e1
  have v8 := p3.2.2.2.2.1
  have v8b := p3.2.1.1.1
  have vF := p3.2.2.2.1
  unfold w_rowList_11b
  refine br_i (fun _ => hq x2 v (p3.mono (by omega) (by omega)) p4 p5) fun hpos => ov_i (by omega) (by omega) (ov_i (by omega) (by omega) (bd_i (by omega) (by omega) (rd_i fun _ => ?_)))
  rw [fx_a vF 114 rfl]
  have hl := (hc.2.2.1 x3 (by omega) p2).1.r
  exact g_pair p3.1 (by omega) hl.1 (by omega) p4 p5 fun k z hg k0 k1 _ _ _ => ov_i (by omega) (by omega) (ih _ _ _ _ ⟨rfl, by omega, by omega, (p3.tr hg (by omega)).mono (by omega) (by omega), k0, k1⟩ (by omega))
theorem g_tellLeft {Q : iST → Prop} {u : iST} (hT : TI u) (hO : OI u) (hL : LR u) (hrows : ∀ r, 0 ≤ r → r < u.1 117 → Cl u r) (h117 : u.1 117 ≤ 2300) (h8 : u.1 8 + 640 ≤ 452000) (hq : ∀ z v, Grow u z 620 0 → TPost (iI z 16 0) v → Q v) : w_tellLeft Q u := by
  have h44 := hT.1
  have l0 := hL.1
  have l1 := hL.2.1
  unfold w_tellLeft
  refine rd_i fun _ => ov_i (by omega) (by omega) ?_
  unfold w_tellLeft_9
  refine lf2 (B := fun R x1 x2 u => w_tellLeft_9b R Q x1 x2 u) (fun x1 x2 v => -1 ≤ x2 ∧ x2 < u.1 63 ∧ Grow u v (31 * (u.1 63 - 1 - x2)) 0 ∧ 0 ≤ x1 ∧ x1 < v.1 8) (fun _ x2 _ => (x2 + 1).toNat) ?_ ⟨by omega, by omega, (Grow.rf hT).mono (by omega) (by omega), Int.le_refl _, by omega⟩
  intro x1 x2 v hI R ih
  obtain ⟨p1, p2, p3, p4, p5⟩ := hI
  have v8 := p3.2.2.2.2.1
  have v8b := p3.2.1.1.1
  have vF := p3.2.2.2.1
  have vE := Grow.extT p3
  unfold w_tellLeft_9b
  refine br_i (fun _ => g_tellOut p3.1 (OI_eq hO (fx_s vF 16 rfl) (fx_s vF 22 rfl)) p4 p5 fun z hz => hq v z (p3.mono (by omega) (by omega)) hz) fun hpos => bd_i (by omega) (by omega) (rd_i fun _ => ?_)
  rw [fx_a vF 120 rfl]
  have hr := hL.2.2 x2 (by omega) p2
  have hc := (hrows _ hr.1 hr.2).ext hT vE (by rw [fx_a vF 115 rfl]) (fun _ _ _ => by rw [fx_a vF 114 rfl]) (by rw [fx_a vF 116 rfl])
  refine g_rowList p3.1 hc hr.1 (by omega) (by omega) fun t z hz t0 t1 => ?_
  have z8 := hz.2.2.2.2.1
  have z8b := hz.2.1.1.1
  exact g_pair hz.1 (by omega) t0 t1 p4 (by omega) fun k y hg k0 k1 _ _ _ => ov_i (by omega) (by omega) (ih _ _ _ ⟨by omega, by omega, ((p3.tr hz (by omega)).tr hg (by omega)).mono (by omega) (by omega), k0, k1⟩ (by omega))
