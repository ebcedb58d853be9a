-- deps: 701
/-! the class: questions about nodes -/
theorem nN64_neg [DecidableEq Ob] {x : Int} (h0 : x < 0) (h1 : -9223372036854775808 ≤ x) : (nN64 x : Int) = x + 18446744073709551616 := by
  have e : (jL x).toInt = x := jL_toInt ⟨h1, by omega⟩
  have e2 : (jL x).toBitVec.toInt = x := e
  unfold nN64
  rw [BitVec.toInt_eq_toNat_cond] at e2
  have hl := (jL x).toBitVec.isLt
  split at e2 <;> omega
theorem wl_nat [DecidableEq Ob] {x : Int} (hx : inL x) {k : Nat} (h : nN64 x = k) (hk : k < 9223372036854775808) : x = (k : Int) := by
  by_cases c : 0 ≤ x
  · have := nN64_pos c hx.2
    omega
  · have := nN64_neg (by omega) hx.1
    omega
theorem cell_pairC [DecidableEq Ob] {l r : Int} (l0 : 0 ≤ l) (l1 : l < 2147483648) (r0 : 0 ≤ r) (r1 : r < 2147483648) (hc : inL (wlor (wlor (-9223372036854775808) (wlshl l 31)) r)) : wlor (wlor (-9223372036854775808) (wlshl l 31)) r = 2147483648 * l + r - 9223372036854775808 := by
  have e1 := shl31 l0 l1
  have e2 := nN64_pos r0 (show r < 9223372036854775808 by omega)
  have e0 : nN64 (-9223372036854775808) = 2 ^ 63 := by decide
  have o1 : (2 ^ 63 ||| 2 ^ 31 * l.toNat : Nat) = 2 ^ 63 + 2 ^ 31 * l.toNat := by
    have q := Nat.two_pow_add_eq_or_of_lt (i := 63) (b := 2 ^ 31 * l.toNat) (by omega) 1
    rw [Nat.mul_one] at q
    exact q.symm
  have e3 : nN64 (wlor (-9223372036854775808) (wlshl l 31)) = 2 ^ 31 * (2 ^ 32 + l.toNat) := by
    rw [nN64_or, e0, e1, o1]; omega
  have e4 : nN64 (wlor (wlor (-9223372036854775808) (wlshl l 31)) r) = 2 ^ 31 * (2 ^ 32 + l.toNat) + r.toNat := by
    rw [nN64_or, e3, e2, Nat.two_pow_add_eq_or_of_lt (by omega)]
  have hn := (cell_pair l0 l1 r0 r1).1
  have := nN64_neg hn hc.1
  omega
theorem ush62_0 [DecidableEq Ob] {v : Int} (h0 : 0 ≤ v) (h1 : v < 4611686018427387904) (hx : inL (wlushr v 62)) : wlushr v 62 = 0 := by
  have e := nN64_ushr v 62 62 (by decide)
  rw [nN64_pos h0 (by omega)] at e
  exact wl_nat hx (k := 0) (by omega) (by decide)
theorem ush62_1 [DecidableEq Ob] {v : Int} (h0 : 4611686018427387904 ≤ v) (h1 : v < 9223372036854775808) (hx : inL (wlushr v 62)) : wlushr v 62 = 1 := by
  have e := nN64_ushr v 62 62 (by decide)
  rw [nN64_pos (by omega) h1] at e
  exact wl_nat hx (k := 1) (by omega) (by decide)
def VN [DecidableEq Ob] (u : iST) (k : Int) : Prop := 0 ≤ k ∧ k < u.1 29
theorem VN.up [DecidableEq Ob] {n r : Nat → Bool} {u v : iST} {k : Int} (h : VN u k) (g : CG n r u v) : VN v k := ⟨h.1, by have := g.le; have := h.2; omega⟩
theorem VN.zero [DecidableEq Ob] {u : iST} (h : CT u) : VN u 0 ∧ oc u 0 = Ob.nil := by
  obtain ⟨a, b, c⟩ := knC h 0 (by decide) (by decide) (o := Ob.nil) rfl
  exact ⟨⟨a, b⟩, c⟩
theorem pc_pair [DecidableEq Ob] {l r : Int} {Q : Int → iST → Prop} {u : iST} (hT : CT u) (hl : VN u l) (hr : VN u r) (hm : u.1 29 < 160000)
    (hq : ∀ k v, CG f8M f8R u v → VN v k → oc v k = .pr (oc u l) (oc u r) → v.1 29 ≤ u.1 29 + 1 → Q k v) : pv_11_pairCell l r (fun c u => pv_7_made c Q u) u := by
  have h16 := hT.1.1.2
  have l1 := hl.2
  have r1 := hr.2
  unfold pv_11_pairCell
  refine ⟨fun _ => ?_, fun z => absurd hl.1 z⟩
  unfold pv_11_pairCell_12
  intro a ea _ b eb _
  refine ⟨fun _ => ?_, fun z => absurd hr.1 z⟩
  intro c ec hc
  rw [eb, ea] at ec
  obtain ⟨q1, q2, q3⟩ := cell_pair hl.1 (show l < 2147483648 by omega) hr.1 (show r < 2147483648 by omega)
  rw [ec] at hc
  have q4 := cell_pairC hl.1 (show l < 2147483648 by omega) hr.1 (show r < 2147483648 by omega) hc
  rw [← ec] at q1 q2 q3 q4
  refine pc_made hT hm ⟨fun _ => ⟨by rw [q2]; exact l1, by rw [q3]; exact r1, by rw [q2, q3]; exact q4⟩, fun z => by omega⟩ (fun k v g k0 k1 ek hk => hq k v g ⟨k0, k1⟩ ?_ hk)
  rw [oc_pr g.1.1 k0 k1 (by rw [ek]; exact q1), ek, q2, q3, g.oc hT hl.1 l1, g.oc hT hr.1 r1]
/-- what a cell says of its node -/
theorem oc_isPr [DecidableEq Ob] {u : iST} (hT : CT u) {k : Int} (h : VN u k) : (oc u k).isPr = true ↔ u.2.2 k < 0 := by
  rcases CIc.cases u k with a | a | a
  · rw [oc_pr hT.1 h.1 h.2 a]; exact ⟨fun _ => a, fun _ => rfl⟩
  · rw [oc_nat a.1 a.2]; exact ⟨(fun z => by cases z), fun z => by omega⟩
  · rw [oc_sym a]; exact ⟨(fun z => by cases z), fun z => by omega⟩
theorem oc_isNat [DecidableEq Ob] {u : iST} (hT : CT u) {k : Int} (h : VN u k) : (oc u k).isNat = true ↔ 0 ≤ u.2.2 k ∧ u.2.2 k < 4611686018427387904 := by
  rcases CIc.cases u k with a | a | a
  · rw [oc_pr hT.1 h.1 h.2 a]; exact ⟨(fun z => by cases z), fun z => by omega⟩
  · rw [oc_nat a.1 a.2]; exact ⟨fun _ => a, fun _ => Ob.nat_isNat _⟩
  · rw [oc_sym a, Ob.sym_isNat]; exact ⟨(fun z => by cases z), fun z => by omega⟩
theorem oc_isSym [DecidableEq Ob] {u : iST} (hT : CT u) {k : Int} (h : VN u k) : (oc u k).isSym = true ↔ 4611686018427387904 ≤ u.2.2 k := by
  rcases CIc.cases u k with a | a | a
  · rw [oc_pr hT.1 h.1 h.2 a]; exact ⟨(fun z => by cases z), fun z => by omega⟩
  · rw [oc_nat a.1 a.2, Ob.nat_isSym]; exact ⟨(fun z => by cases z), fun z => by omega⟩
  · rw [oc_sym a]; exact ⟨fun _ => a, fun _ => Ob.sym_isSym _⟩
/-- the two sides of a pair -/
theorem oc_sides [DecidableEq Ob] {u : iST} (hT : CT u) {k : Int} (h : VN u k) (hc : u.2.2 k < 0) : VN u (cL (u.2.2 k)) ∧ VN u (cR (u.2.2 k)) ∧ cL (u.2.2 k) < k ∧ cR (u.2.2 k) < k ∧ oc u k = .pr (oc u (cL (u.2.2 k))) (oc u (cR (u.2.2 k))) := by
  obtain ⟨a, b, _⟩ := (hT.1.2.1 k h.1 h.2).1 hc
  have := h.2
  exact ⟨⟨(cL_r _).1, by omega⟩, ⟨(cR_r _).1, by omega⟩, a, b, oc_pr hT.1 h.1 h.2 hc⟩
theorem pc_isPair [DecidableEq Ob] {k : Int} {Q : Int → iST → Prop} {u : iST} (hT : CT u) (h : VN u k) (hq : ∀ r, bq r (oc u k).isPr → Q r u) : pv_7_isPair k Q u := by
  unfold pv_7_isPair
  refine ⟨fun z => absurd h.1 (by omega), fun _ => ?_⟩
  intro n en _
  rw [en]
  refine ⟨fun z => absurd h.2 (by omega), fun _ => ?_⟩
  intro _ _ c ec _
  rw [ec]
  have := oc_isPr hT h
  refine ⟨fun z _ => hq 0 (bq0 ?_), fun z _ => hq 1 (bq1 (this.mpr (by omega)))⟩
  cases e : (oc u k).isPr with
  | false => rfl
  | true => exact absurd (this.mp e) (by omega)
theorem bf_of [DecidableEq Ob] {b : Bool} (h : ¬ b = true) : b = false := by
  cases b with
  | false => rfl
  | true => exact absurd rfl h
theorem pc_isNatural [DecidableEq Ob] {k : Int} {Q : Int → iST → Prop} {u : iST} (hT : CT u) (h : VN u k) (hq : ∀ r, bq r (oc u k).isNat → Q r u) : pv_7_isNatural k Q u := by
  unfold pv_7_isNatural
  refine ⟨fun z => absurd h.1 (by omega), fun _ => ?_⟩
  intro n en _
  rw [en]
  refine ⟨fun z => absurd h.2 (by omega), fun _ => ?_⟩
  intro _ _ c ec hc d ed hd
  have := oc_isNat hT h
  rw [← ec] at this
  refine ⟨fun z _ => hq 0 (bq0 (bf_of (fun q => ?_))), fun z _ => hq 1 (bq1 (this.mpr ?_))⟩
  · have := this.mp q
    rw [ed] at hd
    exact z (by rw [ed]; exact ush62_0 this.1 this.2 hd)
  · exact ushr62b hc (by rw [← ed]; exact Decidable.not_not.mp z)
theorem symB [DecidableEq Ob] {u : iST} (hT : CT u) {k : Int} (h : VN u k) {c d : Int} (ec : c = u.2.2 k) (hc : inL c) (ed : d = wlushr c 62) (hd : inL d) : d = 1 ↔ (oc u k).isSym = true := by
  have := oc_isSym hT h
  rw [← ec] at this
  constructor
  · intro z
    have h0 := ushr62 hc (Or.inr (by rw [← ed]; exact z))
    refine this.mpr ?_
    by_cases q : c < 4611686018427387904
    · rw [ed] at hd z
      rw [ush62_0 h0 q hd] at z
      cases z
    · omega
  · intro z
    rw [ed] at hd ⊢
    exact ush62_1 (this.mp z) hc.2 hd
theorem pc_isSymbol [DecidableEq Ob] {k : Int} {Q : Int → iST → Prop} {u : iST} (hT : CT u) (h : VN u k) (hq : ∀ r, bq r (oc u k).isSym → Q r u) : pv_7_isSymbol k Q u := by
  unfold pv_7_isSymbol
  refine ⟨fun z => absurd h.1 (by omega), fun _ => ?_⟩
  intro n en _
  rw [en]
  refine ⟨fun z => absurd h.2 (by omega), fun _ => ?_⟩
  intro _ _ c ec hc d ed hd
  have := symB hT h ec hc ed hd
  exact ⟨fun z _ => hq 0 (bq0 (bf_of (fun q => z (this.mpr q)))), fun z _ => hq 1 (bq1 (this.mp (Decidable.not_not.mp z)))⟩
theorem oc_isVar [DecidableEq Ob] {u : iST} (hT : CT u) {k : Int} (h : VN u k) : (oc u k).isVar = true ↔ 1 < k ∧ (oc u k).isSym = true := by
  have k0 := katC hT 0 (o := Ob.nil) (by decide) (by decide) rfl h.1 h.2
  have k1 := katC hT 1 (o := Ob.t) (by decide) (by decide) rfl h.1 h.2
  unfold Ob.isVar
  rw [Bool.and_eq_true, Bool.and_eq_true, decide_eq_true_eq, decide_eq_true_eq]
  have := h.1
  constructor
  · rintro ⟨⟨a, b⟩, c⟩
    have : k ≠ 0 := fun z => b (k0.mp z)
    have : k ≠ 1 := fun z => c (k1.mp z)
    exact ⟨by omega, a⟩
  · rintro ⟨a, b⟩
    exact ⟨⟨b, fun z => by have := k0.mpr z; omega⟩, fun z => by have := k1.mpr z; omega⟩
theorem pc_isVariable [DecidableEq Ob] {k : Int} {Q : Int → iST → Prop} {u : iST} (hT : CT u) (h : VN u k) (hq : ∀ r, bq r (oc u k).isVar → Q r u) : pv_7_isVariable k Q u := by
  have hv := oc_isVar hT h
  unfold pv_7_isVariable
  refine ⟨fun z _ => hq 0 (bq0 (bf_of (fun q => by have := hv.mp q; omega))), fun z0 => ?_⟩
  intro n en _
  rw [en]
  refine ⟨fun z => absurd h.2 (by omega), fun _ => ?_⟩
  intro _ _ c ec hc d ed hd
  have := symB hT h ec hc ed hd
  exact ⟨fun z _ => hq 0 (bq0 (bf_of (fun q => z (this.mpr (hv.mp q).2)))), fun z _ => hq 1 (bq1 (hv.mpr ⟨by omega, this.mp (Decidable.not_not.mp z)⟩))⟩
theorem known_res [DecidableEq Ob] : ∀ i : Nat, i < 17 → ∀ o, Ob.knownC[i]? = some o → Ob.reserved o = true := by
  intro i h o ho
  have hj : i = 0 ∨ i = 1 ∨ i = 2 ∨ i = 3 ∨ i = 4 ∨ i = 5 ∨ i = 6 ∨ i = 7 ∨ i = 8 ∨ i = 9 ∨ i = 10 ∨ i = 11 ∨ i = 12 ∨ i = 13 ∨ i = 14 ∨ i = 15 ∨ i = 16 := by omega
  rcases hj with q | q | q | q | q | q | q | q | q | q | q | q | q | q | q | q | q <;>
  · subst q
    injection ho with ho
    rw [← ho]
    unfold Ob.reserved Ob.isBase
    simp only [Bool.or_eq_true, decide_eq_true_eq, true_or, or_true]
theorem res_known [DecidableEq Ob] {o : Ob} (h : Ob.reserved o = true) : ∃ i : Nat, i < 17 ∧ Ob.knownC[i]? = some o := by
  unfold Ob.reserved Ob.isBase at h
  simp only [Bool.or_eq_true, decide_eq_true_eq] at h
  rcases h with ((h | h) | h) | (((((((((((((h | h) | h) | h) | h) | h) | h) | h) | h) | h) | h) | h) | h) | h)
  · exact ⟨0, by decide, by rw [h]; rfl⟩
  · exact ⟨1, by decide, by rw [h]; rfl⟩
  · exact ⟨2, by decide, by rw [h]; rfl⟩
  · exact ⟨3, by decide, by rw [h]; rfl⟩
  · exact ⟨4, by decide, by rw [h]; rfl⟩
  · exact ⟨5, by decide, by rw [h]; rfl⟩
  · exact ⟨6, by decide, by rw [h]; rfl⟩
  · exact ⟨7, by decide, by rw [h]; rfl⟩
  · exact ⟨8, by decide, by rw [h]; rfl⟩
  · exact ⟨9, by decide, by rw [h]; rfl⟩
  · exact ⟨10, by decide, by rw [h]; rfl⟩
  · exact ⟨11, by decide, by rw [h]; rfl⟩
  · exact ⟨12, by decide, by rw [h]; rfl⟩
  · exact ⟨13, by decide, by rw [h]; rfl⟩
  · exact ⟨14, by decide, by rw [h]; rfl⟩
  · exact ⟨16, by decide, by rw [h]; rfl⟩
  · exact ⟨15, by decide, by rw [h]; rfl⟩
theorem oc_res [DecidableEq Ob] {u : iST} (hT : CT u) {k : Int} (h : VN u k) : Ob.reserved (oc u k) = true ↔ k ≤ 16 := by
  have h0 := h.1
  constructor
  · intro z
    obtain ⟨i, hi, e⟩ := res_known z
    have := (katC hT (i : Int) (by omega) (by omega) (by rw [show ((i : Int)).toNat = i by omega]; exact e) h.1 h.2).mpr rfl
    omega
  · intro z
    have := hT.2.2.2 k.toNat (by omega)
    rw [show ((k.toNat : Nat) : Int) = k by omega] at this
    exact known_res k.toNat (by omega) _ this.symm
theorem oc_isName [DecidableEq Ob] {u : iST} (hT : CT u) {k : Int} (h : VN u k) : (oc u k).isName = true ↔ 16 < k ∧ (oc u k).isSym = true := by
  have hr := oc_res hT h
  unfold Ob.isName
  rw [Bool.and_eq_true, Bool.not_eq_true']
  constructor
  · rintro ⟨a, b⟩
    refine ⟨?_, a⟩
    by_cases q : k ≤ 16
    · rw [hr.mpr q] at b; cases b
    · omega
  · rintro ⟨a, b⟩
    exact ⟨b, bf_of (fun z => by have := hr.mp z; omega)⟩
theorem pc_isName [DecidableEq Ob] {k : Int} {Q : Int → iST → Prop} {u : iST} (hT : CT u) (h : VN u k) (hq : ∀ r, bq r (oc u k).isName → Q r u) : pv_7_isName k Q u := by
  have hv := oc_isName hT h
  unfold pv_7_isName
  refine ⟨fun z _ => hq 0 (bq0 (bf_of (fun q => by have := hv.mp q; omega))), fun z0 => ?_⟩
  intro n en _
  rw [en]
  refine ⟨fun z => absurd h.2 (by omega), fun _ => ?_⟩
  intro _ _ c ec hc d ed hd
  have := symB hT h ec hc ed hd
  exact ⟨fun z _ => hq 0 (bq0 (bf_of (fun q => z (this.mpr (hv.mp q).2)))), fun z _ => hq 1 (bq1 (hv.mpr ⟨by omega, this.mp (Decidable.not_not.mp z)⟩))⟩
